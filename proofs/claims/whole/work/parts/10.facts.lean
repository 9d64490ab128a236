theorem in_1 {w : Cond} (h : w ∈ tables_1_1) : w ∈ lw_tbl := List.mem_append_right _ (by show w ∈ tables_1; unfold tables_1; exact List.mem_append_left _ h)
theorem in_2 {w : Cond} (h : w ∈ tables_1_2) : w ∈ lw_tbl := List.mem_append_right _ (by show w ∈ tables_1; unfold tables_1; exact List.mem_append_right _ (List.mem_append_left _ h))
theorem in_3 {w : Cond} (h : w ∈ tables_1_3) : w ∈ lw_tbl := List.mem_append_right _ (by show w ∈ tables_1; unfold tables_1; exact List.mem_append_right _ (List.mem_append_right _ (List.mem_append_left _ h)))
theorem in_4 {w : Cond} (h : w ∈ tables_1_4) : w ∈ lw_tbl := List.mem_append_right _ (by show w ∈ tables_1; unfold tables_1; exact List.mem_append_right _ (List.mem_append_right _ (List.mem_append_right _ (List.mem_append_left _ h))))
theorem in_5 {w : Cond} (h : w ∈ tables_1_5) : w ∈ lw_tbl := List.mem_append_right _ (by show w ∈ tables_1; unfold tables_1; exact List.mem_append_right _ (List.mem_append_right _ (List.mem_append_right _ (List.mem_append_right _ (List.mem_append_left _ h)))))
theorem in_6 {w : Cond} (h : w ∈ tables_1_6) : w ∈ lw_tbl := List.mem_append_right _ (by show w ∈ tables_1; unfold tables_1; exact List.mem_append_right _ (List.mem_append_right _ (List.mem_append_right _ (List.mem_append_right _ (List.mem_append_right _ (List.mem_append_left _ h))))))
theorem in_7 {w : Cond} (h : w ∈ tables_1_7) : w ∈ lw_tbl := List.mem_append_right _ (by show w ∈ tables_1; unfold tables_1; exact List.mem_append_right _ (List.mem_append_right _ (List.mem_append_right _ (List.mem_append_right _ (List.mem_append_right _ (List.mem_append_right _ (List.mem_append_left _ h)))))))
theorem in_8 {w : Cond} (h : w ∈ tables_1_8) : w ∈ lw_tbl := List.mem_append_right _ (by show w ∈ tables_1; unfold tables_1; exact List.mem_append_right _ (List.mem_append_right _ (List.mem_append_right _ (List.mem_append_right _ (List.mem_append_right _ (List.mem_append_right _ (List.mem_append_right _ (List.mem_append_left _ h))))))))
theorem in_9 {w : Cond} (h : w ∈ tables_1_9) : w ∈ lw_tbl := List.mem_append_right _ (by show w ∈ tables_1; unfold tables_1; exact List.mem_append_right _ (List.mem_append_right _ (List.mem_append_right _ (List.mem_append_right _ (List.mem_append_right _ (List.mem_append_right _ (List.mem_append_right _ (List.mem_append_right _ (List.mem_append_left _ h)))))))))
theorem in_10 {w : Cond} (h : w ∈ tables_1_10) : w ∈ lw_tbl := List.mem_append_right _ (by show w ∈ tables_1; unfold tables_1; exact List.mem_append_right _ (List.mem_append_right _ (List.mem_append_right _ (List.mem_append_right _ (List.mem_append_right _ (List.mem_append_right _ (List.mem_append_right _ (List.mem_append_right _ (List.mem_append_right _ (h))))))))))
/-- loops -/
def lp {σ α : Type} (B : (σ → Option α) → σ → Option α) : Nat → σ → Option α
  | 0 => fun _ => none
  | n + 1 => B (lp B n)
theorem tq_lp {σ α : Type} {E : Ev} {inj : α → Option Value × Mm} {pc : Nat} {B : (σ → Option α) → σ → Option α} (ls : σ → List (Nat × Value)) (mem : σ → Mm) (hB : ∀ kH : σ → Option α, (∀ s, T E inj pc (ls s) [] (mem s) (kH s)) → ∀ s, T E inj pc (ls s) [] (mem s) (B kH s)) : ∀ (n : Nat) (s : σ), T E inj pc (ls s) [] (mem s) (lp B n s)
  | 0, s => tq_none
  | n + 1, s => hB (lp B n) (tq_lp ls mem hB n) s
def FU : Nat := 1000000000
def FUR : Nat := 120
def isTold (i : Nat) : Prop := i = 3 ∨ i = 20
def isCode (i : Nat) : Prop := i = 16 ∨ i = 33 ∨ i = 71
def isReader (i : Nat) : Prop := i = 38 ∨ i = 76
theorem isTold_ok {i : Nat} (h : isTold i) : skind i = 7 ∧ 7 < 20 ∧ i < NC := by
  rcases h with rfl | rfl <;> exact ⟨rfl, by decide, by decide⟩
theorem isTold_rc {i : Nat} (h : isTold i) : rcvOk i "BreathTown$Told" := by
  rcases h with rfl | rfl <;> exact Or.inl ⟨by decide, by decide, rfl⟩
theorem sa_Told_0 {i : Nat} (h : isTold i) : skind (ptr i 0) = 20 ∧ ptr i 0 < NC := by
  rcases h with rfl | rfl <;> exact ⟨rfl, by decide⟩
theorem sn_Told_0 {i : Nat} (h : isTold i) : slen (ptr i 0) = 3 := by
  rcases h with rfl | rfl <;> rfl
theorem sa_Told_1 {i : Nat} (h : isTold i) : skind (ptr i 1) = 20 ∧ ptr i 1 < NC := by
  rcases h with rfl | rfl <;> exact ⟨rfl, by decide⟩
theorem sn_Told_1 {i : Nat} (h : isTold i) : slen (ptr i 1) = 36 := by
  rcases h with rfl | rfl <;> rfl
theorem sa_Told_2 {i : Nat} (h : isTold i) : skind (ptr i 2) = 20 ∧ ptr i 2 < NC := by
  rcases h with rfl | rfl <;> exact ⟨rfl, by decide⟩
theorem sn_Told_2 {i : Nat} (h : isTold i) : slen (ptr i 2) = 12 := by
  rcases h with rfl | rfl <;> rfl
theorem sa_Told_3 {i : Nat} (h : isTold i) : skind (ptr i 3) = 20 ∧ ptr i 3 < NC := by
  rcases h with rfl | rfl <;> exact ⟨rfl, by decide⟩
theorem sn_Told_3 {i : Nat} (h : isTold i) : slen (ptr i 3) = 12 := by
  rcases h with rfl | rfl <;> rfl
theorem sa_Told_4 {i : Nat} (h : isTold i) : skind (ptr i 4) = 20 ∧ ptr i 4 < NC := by
  rcases h with rfl | rfl <;> exact ⟨rfl, by decide⟩
theorem sn_Told_4 {i : Nat} (h : isTold i) : slen (ptr i 4) = 12 := by
  rcases h with rfl | rfl <;> rfl
theorem sa_Told_5 {i : Nat} (h : isTold i) : skind (ptr i 5) = 20 ∧ ptr i 5 < NC := by
  rcases h with rfl | rfl <;> exact ⟨rfl, by decide⟩
theorem sn_Told_5 {i : Nat} (h : isTold i) : slen (ptr i 5) = 12 := by
  rcases h with rfl | rfl <;> rfl
theorem sa_Told_6 {i : Nat} (h : isTold i) : skind (ptr i 6) = 20 ∧ ptr i 6 < NC := by
  rcases h with rfl | rfl <;> exact ⟨rfl, by decide⟩
theorem sn_Told_6 {i : Nat} (h : isTold i) : slen (ptr i 6) = 12 := by
  rcases h with rfl | rfl <;> rfl
theorem sa_Told_7 {i : Nat} (h : isTold i) : skind (ptr i 7) = 20 ∧ ptr i 7 < NC := by
  rcases h with rfl | rfl <;> exact ⟨rfl, by decide⟩
theorem sn_Told_7 {i : Nat} (h : isTold i) : slen (ptr i 7) = 12 := by
  rcases h with rfl | rfl <;> rfl
theorem sa_Told_8 {i : Nat} (h : isTold i) : skind (ptr i 8) = 20 ∧ ptr i 8 < NC := by
  rcases h with rfl | rfl <;> exact ⟨rfl, by decide⟩
theorem sn_Told_8 {i : Nat} (h : isTold i) : slen (ptr i 8) = 12 := by
  rcases h with rfl | rfl <;> rfl
theorem sa_Told_9 {i : Nat} (h : isTold i) : skind (ptr i 9) = 20 ∧ ptr i 9 < NC := by
  rcases h with rfl | rfl <;> exact ⟨rfl, by decide⟩
theorem sn_Told_9 {i : Nat} (h : isTold i) : slen (ptr i 9) = 6 := by
  rcases h with rfl | rfl <;> rfl
theorem sa_Told_10 {i : Nat} (h : isTold i) : skind (ptr i 10) = 20 ∧ ptr i 10 < NC := by
  rcases h with rfl | rfl <;> exact ⟨rfl, by decide⟩
theorem sn_Told_10 {i : Nat} (h : isTold i) : slen (ptr i 10) = 6 := by
  rcases h with rfl | rfl <;> rfl
theorem sa_Told_11 {i : Nat} (h : isTold i) : skind (ptr i 11) = 20 ∧ ptr i 11 < NC := by
  rcases h with rfl | rfl <;> exact ⟨rfl, by decide⟩
theorem sn_Told_11 {i : Nat} (h : isTold i) : slen (ptr i 11) = 6 := by
  rcases h with rfl | rfl <;> rfl
theorem sm_Told_12 {i : Nat} (h : isTold i) : isCode (ptr i 12) := by
  rcases h with rfl | rfl
  · exact Or.inl rfl
  · exact Or.inr (Or.inl rfl)
theorem isCode_ok {i : Nat} (h : isCode i) : skind i = 0 ∧ 0 < 20 ∧ i < NC := by
  rcases h with rfl | rfl | rfl <;> exact ⟨rfl, by decide, by decide⟩
theorem isCode_rc {i : Nat} (h : isCode i) : rcvOk i "BreathTown$Code" := by
  rcases h with rfl | rfl | rfl <;> exact Or.inl ⟨by decide, by decide, rfl⟩
theorem sa_Code_0 {i : Nat} (h : isCode i) : skind (ptr i 0) = 20 ∧ ptr i 0 < NC := by
  rcases h with rfl | rfl | rfl <;> exact ⟨rfl, by decide⟩
theorem sn_Code_0 {i : Nat} (h : isCode i) : slen (ptr i 0) = 1600 := by
  rcases h with rfl | rfl | rfl <;> rfl
theorem sa_Code_1 {i : Nat} (h : isCode i) : skind (ptr i 1) = 20 ∧ ptr i 1 < NC := by
  rcases h with rfl | rfl | rfl <;> exact ⟨rfl, by decide⟩
theorem sn_Code_1 {i : Nat} (h : isCode i) : slen (ptr i 1) = 64 := by
  rcases h with rfl | rfl | rfl <;> rfl
theorem sa_Code_2 {i : Nat} (h : isCode i) : skind (ptr i 2) = 20 ∧ ptr i 2 < NC := by
  rcases h with rfl | rfl | rfl <;> exact ⟨rfl, by decide⟩
theorem sn_Code_2 {i : Nat} (h : isCode i) : slen (ptr i 2) = 36 := by
  rcases h with rfl | rfl | rfl <;> rfl
theorem isReader_ok {i : Nat} (h : isReader i) : skind i = 4 ∧ 4 < 20 ∧ i < NC := by
  rcases h with rfl | rfl <;> exact ⟨rfl, by decide, by decide⟩
theorem isReader_rc {i : Nat} (h : isReader i) : rcvOk i "BreathTown$Reader" := by
  rcases h with rfl | rfl <;> exact Or.inl ⟨by decide, by decide, rfl⟩
theorem sq_Reader_0 {i : Nat} (h : isReader i) : ptr i 0 = 1 := by
  rcases h with rfl | rfl <;> rfl
theorem sm_Reader_1 {i : Nat} (h : isReader i) : isCode (ptr i 1) := by
  rcases h with rfl | rfl
  · exact Or.inr (Or.inl rfl)
  · exact Or.inr (Or.inr rfl)
theorem rc_str {w : Nat} (h : w < NSt) : rcvOk (1000 + w) "java/lang/String" := Or.inr ⟨⟨by omega, by omega⟩, rfl⟩
theorem so_0 : skind 0 = 11 ∧ 11 < 20 ∧ 0 < NC := ⟨rfl, by decide, by decide⟩
theorem rc_0 : rcvOk 0 "BreathTown" := Or.inl ⟨by decide, by decide, rfl⟩
theorem sp_0_0 : ptr 0 0 = 1 := rfl
theorem sp_0_1 : ptr 0 1 = 3 := rfl
theorem sp_0_2 : ptr 0 2 = 20 := rfl
theorem sp_0_3 : ptr 0 3 = 37 := rfl
theorem sp_0_4 : ptr 0 4 = 39 := rfl
theorem sp_0_5 : ptr 0 5 = 46 := rfl
theorem sp_0_6 : ptr 0 6 = 48 := rfl
theorem sp_0_7 : ptr 0 7 = 55 := rfl
theorem sp_0_8 : ptr 0 8 = 64 := rfl
theorem sp_0_9 : ptr 0 9 = 70 := rfl
theorem sp_0_10 : ptr 0 10 = 77 := rfl
theorem so_1 : skind 1 = 5 ∧ 5 < 20 ∧ 1 < NC := ⟨rfl, by decide, by decide⟩
theorem rc_1 : rcvOk 1 "BreathTown$Scan" := Or.inl ⟨by decide, by decide, rfl⟩
theorem sp_1_0 : ptr 1 0 = 2 := rfl
theorem sa_2 : skind 2 = 20 ∧ 2 < NC := ⟨rfl, by decide⟩
theorem sn_2 : slen 2 = 1600 := rfl
theorem so_3 : skind 3 = 7 ∧ 7 < 20 ∧ 3 < NC := ⟨rfl, by decide, by decide⟩
theorem rc_3 : rcvOk 3 "BreathTown$Told" := Or.inl ⟨by decide, by decide, rfl⟩
theorem sp_3_0 : ptr 3 0 = 4 := rfl
theorem sp_3_1 : ptr 3 1 = 5 := rfl
theorem sp_3_2 : ptr 3 2 = 6 := rfl
theorem sp_3_3 : ptr 3 3 = 7 := rfl
theorem sp_3_4 : ptr 3 4 = 8 := rfl
theorem sp_3_5 : ptr 3 5 = 9 := rfl
theorem sp_3_6 : ptr 3 6 = 10 := rfl
theorem sp_3_7 : ptr 3 7 = 11 := rfl
theorem sp_3_8 : ptr 3 8 = 12 := rfl
theorem sp_3_9 : ptr 3 9 = 13 := rfl
theorem sp_3_10 : ptr 3 10 = 14 := rfl
theorem sp_3_11 : ptr 3 11 = 15 := rfl
theorem sp_3_12 : ptr 3 12 = 16 := rfl
theorem sa_4 : skind 4 = 20 ∧ 4 < NC := ⟨rfl, by decide⟩
theorem sn_4 : slen 4 = 3 := rfl
theorem sa_5 : skind 5 = 20 ∧ 5 < NC := ⟨rfl, by decide⟩
theorem sn_5 : slen 5 = 36 := rfl
theorem sa_6 : skind 6 = 20 ∧ 6 < NC := ⟨rfl, by decide⟩
theorem sn_6 : slen 6 = 12 := rfl
theorem sa_7 : skind 7 = 20 ∧ 7 < NC := ⟨rfl, by decide⟩
theorem sn_7 : slen 7 = 12 := rfl
theorem sa_8 : skind 8 = 20 ∧ 8 < NC := ⟨rfl, by decide⟩
theorem sn_8 : slen 8 = 12 := rfl
theorem sa_9 : skind 9 = 20 ∧ 9 < NC := ⟨rfl, by decide⟩
theorem sn_9 : slen 9 = 12 := rfl
theorem sa_10 : skind 10 = 20 ∧ 10 < NC := ⟨rfl, by decide⟩
theorem sn_10 : slen 10 = 12 := rfl
theorem sa_11 : skind 11 = 20 ∧ 11 < NC := ⟨rfl, by decide⟩
theorem sn_11 : slen 11 = 12 := rfl
theorem sa_12 : skind 12 = 20 ∧ 12 < NC := ⟨rfl, by decide⟩
theorem sn_12 : slen 12 = 12 := rfl
theorem sa_13 : skind 13 = 20 ∧ 13 < NC := ⟨rfl, by decide⟩
theorem sn_13 : slen 13 = 6 := rfl
theorem sa_14 : skind 14 = 20 ∧ 14 < NC := ⟨rfl, by decide⟩
theorem sn_14 : slen 14 = 6 := rfl
theorem sa_15 : skind 15 = 20 ∧ 15 < NC := ⟨rfl, by decide⟩
theorem sn_15 : slen 15 = 6 := rfl
theorem so_16 : skind 16 = 0 ∧ 0 < 20 ∧ 16 < NC := ⟨rfl, by decide, by decide⟩
theorem rc_16 : rcvOk 16 "BreathTown$Code" := Or.inl ⟨by decide, by decide, rfl⟩
theorem sp_16_0 : ptr 16 0 = 17 := rfl
theorem sp_16_1 : ptr 16 1 = 18 := rfl
theorem sp_16_2 : ptr 16 2 = 19 := rfl
theorem sa_17 : skind 17 = 20 ∧ 17 < NC := ⟨rfl, by decide⟩
theorem sn_17 : slen 17 = 1600 := rfl
theorem sa_18 : skind 18 = 20 ∧ 18 < NC := ⟨rfl, by decide⟩
theorem sn_18 : slen 18 = 64 := rfl
theorem sa_19 : skind 19 = 20 ∧ 19 < NC := ⟨rfl, by decide⟩
theorem sn_19 : slen 19 = 36 := rfl
theorem so_20 : skind 20 = 7 ∧ 7 < 20 ∧ 20 < NC := ⟨rfl, by decide, by decide⟩
theorem rc_20 : rcvOk 20 "BreathTown$Told" := Or.inl ⟨by decide, by decide, rfl⟩
theorem sp_20_0 : ptr 20 0 = 21 := rfl
theorem sp_20_1 : ptr 20 1 = 22 := rfl
theorem sp_20_2 : ptr 20 2 = 23 := rfl
theorem sp_20_3 : ptr 20 3 = 24 := rfl
theorem sp_20_4 : ptr 20 4 = 25 := rfl
theorem sp_20_5 : ptr 20 5 = 26 := rfl
theorem sp_20_6 : ptr 20 6 = 27 := rfl
theorem sp_20_7 : ptr 20 7 = 28 := rfl
theorem sp_20_8 : ptr 20 8 = 29 := rfl
theorem sp_20_9 : ptr 20 9 = 30 := rfl
theorem sp_20_10 : ptr 20 10 = 31 := rfl
theorem sp_20_11 : ptr 20 11 = 32 := rfl
theorem sp_20_12 : ptr 20 12 = 33 := rfl
theorem sa_21 : skind 21 = 20 ∧ 21 < NC := ⟨rfl, by decide⟩
theorem sn_21 : slen 21 = 3 := rfl
theorem sa_22 : skind 22 = 20 ∧ 22 < NC := ⟨rfl, by decide⟩
theorem sn_22 : slen 22 = 36 := rfl
theorem sa_23 : skind 23 = 20 ∧ 23 < NC := ⟨rfl, by decide⟩
theorem sn_23 : slen 23 = 12 := rfl
theorem sa_24 : skind 24 = 20 ∧ 24 < NC := ⟨rfl, by decide⟩
theorem sn_24 : slen 24 = 12 := rfl
theorem sa_25 : skind 25 = 20 ∧ 25 < NC := ⟨rfl, by decide⟩
theorem sn_25 : slen 25 = 12 := rfl
theorem sa_26 : skind 26 = 20 ∧ 26 < NC := ⟨rfl, by decide⟩
theorem sn_26 : slen 26 = 12 := rfl
theorem sa_27 : skind 27 = 20 ∧ 27 < NC := ⟨rfl, by decide⟩
theorem sn_27 : slen 27 = 12 := rfl
theorem sa_28 : skind 28 = 20 ∧ 28 < NC := ⟨rfl, by decide⟩
theorem sn_28 : slen 28 = 12 := rfl
theorem sa_29 : skind 29 = 20 ∧ 29 < NC := ⟨rfl, by decide⟩
theorem sn_29 : slen 29 = 12 := rfl
theorem sa_30 : skind 30 = 20 ∧ 30 < NC := ⟨rfl, by decide⟩
theorem sn_30 : slen 30 = 6 := rfl
theorem sa_31 : skind 31 = 20 ∧ 31 < NC := ⟨rfl, by decide⟩
theorem sn_31 : slen 31 = 6 := rfl
theorem sa_32 : skind 32 = 20 ∧ 32 < NC := ⟨rfl, by decide⟩
theorem sn_32 : slen 32 = 6 := rfl
theorem so_33 : skind 33 = 0 ∧ 0 < 20 ∧ 33 < NC := ⟨rfl, by decide, by decide⟩
theorem rc_33 : rcvOk 33 "BreathTown$Code" := Or.inl ⟨by decide, by decide, rfl⟩
theorem sp_33_0 : ptr 33 0 = 34 := rfl
theorem sp_33_1 : ptr 33 1 = 35 := rfl
theorem sp_33_2 : ptr 33 2 = 36 := rfl
theorem sa_34 : skind 34 = 20 ∧ 34 < NC := ⟨rfl, by decide⟩
theorem sn_34 : slen 34 = 1600 := rfl
theorem sa_35 : skind 35 = 20 ∧ 35 < NC := ⟨rfl, by decide⟩
theorem sn_35 : slen 35 = 64 := rfl
theorem sa_36 : skind 36 = 20 ∧ 36 < NC := ⟨rfl, by decide⟩
theorem sn_36 : slen 36 = 36 := rfl
theorem so_37 : skind 37 = 8 ∧ 8 < 20 ∧ 37 < NC := ⟨rfl, by decide, by decide⟩
theorem rc_37 : rcvOk 37 "BreathTown$TownReader" := Or.inl ⟨by decide, by decide, rfl⟩
theorem sp_37_0 : ptr 37 0 = 1 := rfl
theorem sp_37_1 : ptr 37 1 = 20 := rfl
theorem sp_37_2 : ptr 37 2 = 38 := rfl
theorem so_38 : skind 38 = 4 ∧ 4 < 20 ∧ 38 < NC := ⟨rfl, by decide, by decide⟩
theorem rc_38 : rcvOk 38 "BreathTown$Reader" := Or.inl ⟨by decide, by decide, rfl⟩
theorem sp_38_0 : ptr 38 0 = 1 := rfl
theorem sp_38_1 : ptr 38 1 = 33 := rfl
theorem so_39 : skind 39 = 2 ∧ 2 < 20 ∧ 39 < NC := ⟨rfl, by decide, by decide⟩
theorem rc_39 : rcvOk 39 "BreathTown$Now" := Or.inl ⟨by decide, by decide, rfl⟩
theorem sp_39_0 : ptr 39 0 = 3 := rfl
theorem sp_39_1 : ptr 39 1 = 40 := rfl
theorem sp_39_2 : ptr 39 2 = 41 := rfl
theorem sp_39_3 : ptr 39 3 = 42 := rfl
theorem sp_39_4 : ptr 39 4 = 43 := rfl
theorem sp_39_5 : ptr 39 5 = 44 := rfl
theorem sp_39_6 : ptr 39 6 = 45 := rfl
theorem sa_40 : skind 40 = 20 ∧ 40 < NC := ⟨rfl, by decide⟩
theorem sn_40 : slen 40 = 12 := rfl
theorem sa_41 : skind 41 = 20 ∧ 41 < NC := ⟨rfl, by decide⟩
theorem sn_41 : slen 41 = 6 := rfl
theorem sa_42 : skind 42 = 20 ∧ 42 < NC := ⟨rfl, by decide⟩
theorem sn_42 : slen 42 = 6 := rfl
theorem sa_43 : skind 43 = 20 ∧ 43 < NC := ⟨rfl, by decide⟩
theorem sn_43 : slen 43 = 6 := rfl
theorem sa_44 : skind 44 = 20 ∧ 44 < NC := ⟨rfl, by decide⟩
theorem sn_44 : slen 44 = 620 := rfl
theorem sa_45 : skind 45 = 20 ∧ 45 < NC := ⟨rfl, by decide⟩
theorem sn_45 : slen 45 = 39 := rfl
theorem so_46 : skind 46 = 10 ∧ 10 < 20 ∧ 46 < NC := ⟨rfl, by decide, by decide⟩
theorem rc_46 : rcvOk 46 "BreathTown$Widths" := Or.inl ⟨by decide, by decide, rfl⟩
theorem sp_46_0 : ptr 46 0 = 3 := rfl
theorem sp_46_1 : ptr 46 1 = 39 := rfl
theorem sp_46_2 : ptr 46 2 = 47 := rfl
theorem sa_47 : skind 47 = 21 ∧ 47 < NC := ⟨rfl, by decide⟩
theorem sn_47 : slen 47 = 6144 := rfl
theorem so_48 : skind 48 = 9 ∧ 9 < 20 ∧ 48 < NC := ⟨rfl, by decide, by decide⟩
theorem rc_48 : rcvOk 48 "BreathTown$Ways" := Or.inl ⟨by decide, by decide, rfl⟩
theorem sp_48_0 : ptr 48 0 = 3 := rfl
theorem sp_48_1 : ptr 48 1 = 39 := rfl
theorem sp_48_2 : ptr 48 2 = 46 := rfl
theorem sp_48_3 : ptr 48 3 = 49 := rfl
theorem sp_48_4 : ptr 48 4 = 50 := rfl
theorem sp_48_5 : ptr 48 5 = 51 := rfl
theorem sp_48_7 : ptr 48 7 = 52 := rfl
theorem sp_48_8 : ptr 48 8 = 53 := rfl
theorem sp_48_9 : ptr 48 9 = 54 := rfl
theorem sa_49 : skind 49 = 20 ∧ 49 < NC := ⟨rfl, by decide⟩
theorem sn_49 : slen 49 = 9 := rfl
theorem sa_50 : skind 50 = 20 ∧ 50 < NC := ⟨rfl, by decide⟩
theorem sn_50 : slen 50 = 9 := rfl
theorem sa_51 : skind 51 = 20 ∧ 51 < NC := ⟨rfl, by decide⟩
theorem sn_51 : slen 51 = 9 := rfl
theorem sa_52 : skind 52 = 20 ∧ 52 < NC := ⟨rfl, by decide⟩
theorem sn_52 : slen 52 = 36 := rfl
theorem sa_53 : skind 53 = 20 ∧ 53 < NC := ⟨rfl, by decide⟩
theorem sn_53 : slen 53 = 36 := rfl
theorem sa_54 : skind 54 = 20 ∧ 54 < NC := ⟨rfl, by decide⟩
theorem sn_54 : slen 54 = 36 := rfl
theorem so_55 : skind 55 = 1 ∧ 1 < 20 ∧ 55 < NC := ⟨rfl, by decide, by decide⟩
theorem rc_55 : rcvOk 55 "BreathTown$Many" := Or.inl ⟨by decide, by decide, rfl⟩
theorem sp_55_0 : ptr 55 0 = 3 := rfl
theorem sp_55_1 : ptr 55 1 = 39 := rfl
theorem sp_55_2 : ptr 55 2 = 46 := rfl
theorem sp_55_3 : ptr 55 3 = 48 := rfl
theorem sp_55_4 : ptr 55 4 = 56 := rfl
theorem sp_55_5 : ptr 55 5 = 57 := rfl
theorem sp_55_8 : ptr 55 8 = 58 := rfl
theorem sp_55_9 : ptr 55 9 = 59 := rfl
theorem sp_55_10 : ptr 55 10 = 60 := rfl
theorem sp_55_11 : ptr 55 11 = 61 := rfl
theorem sp_55_12 : ptr 55 12 = 62 := rfl
theorem sp_55_13 : ptr 55 13 = 63 := rfl
theorem sa_56 : skind 56 = 20 ∧ 56 < NC := ⟨rfl, by decide⟩
theorem sn_56 : slen 56 = 4 := rfl
theorem sa_57 : skind 57 = 20 ∧ 57 < NC := ⟨rfl, by decide⟩
theorem sn_57 : slen 57 = 4 := rfl
theorem sa_58 : skind 58 = 20 ∧ 58 < NC := ⟨rfl, by decide⟩
theorem sn_58 : slen 58 = 4 := rfl
theorem sa_59 : skind 59 = 20 ∧ 59 < NC := ⟨rfl, by decide⟩
theorem sn_59 : slen 59 = 4 := rfl
theorem sa_60 : skind 60 = 20 ∧ 60 < NC := ⟨rfl, by decide⟩
theorem sn_60 : slen 60 = 3 := rfl
theorem sa_61 : skind 61 = 20 ∧ 61 < NC := ⟨rfl, by decide⟩
theorem sn_61 : slen 61 = 405 := rfl
theorem sa_62 : skind 62 = 20 ∧ 62 < NC := ⟨rfl, by decide⟩
theorem sn_62 : slen 62 = 12 := rfl
theorem sa_63 : skind 63 = 20 ∧ 63 < NC := ⟨rfl, by decide⟩
theorem sn_63 : slen 63 = 216 := rfl
theorem so_64 : skind 64 = 6 ∧ 6 < 20 ∧ 64 < NC := ⟨rfl, by decide, by decide⟩
theorem rc_64 : rcvOk 64 "BreathTown$Seen" := Or.inl ⟨by decide, by decide, rfl⟩
theorem sp_64_0 : ptr 64 0 = 3 := rfl
theorem sp_64_1 : ptr 64 1 = 39 := rfl
theorem sp_64_2 : ptr 64 2 = 46 := rfl
theorem sp_64_3 : ptr 64 3 = 65 := rfl
theorem sp_64_4 : ptr 64 4 = 66 := rfl
theorem sp_64_5 : ptr 64 5 = 67 := rfl
theorem sp_64_7 : ptr 64 7 = 68 := rfl
theorem sp_64_8 : ptr 64 8 = 69 := rfl
theorem sa_65 : skind 65 = 20 ∧ 65 < NC := ⟨rfl, by decide⟩
theorem sn_65 : slen 65 = 20 := rfl
theorem sa_66 : skind 66 = 20 ∧ 66 < NC := ⟨rfl, by decide⟩
theorem sn_66 : slen 66 = 20 := rfl
theorem sa_67 : skind 67 = 20 ∧ 67 < NC := ⟨rfl, by decide⟩
theorem sn_67 : slen 67 = 20 := rfl
theorem sa_68 : skind 68 = 20 ∧ 68 < NC := ⟨rfl, by decide⟩
theorem sn_68 : slen 68 = 48 := rfl
theorem sa_69 : skind 69 = 20 ∧ 69 < NC := ⟨rfl, by decide⟩
theorem sn_69 : slen 69 = 100 := rfl
theorem so_70 : skind 70 = 3 ∧ 3 < 20 ∧ 70 < NC := ⟨rfl, by decide, by decide⟩
theorem rc_70 : rcvOk 70 "BreathTown$Question" := Or.inl ⟨by decide, by decide, rfl⟩
theorem sp_70_0 : ptr 70 0 = 1 := rfl
theorem sp_70_1 : ptr 70 1 = 3 := rfl
theorem sp_70_2 : ptr 70 2 = 39 := rfl
theorem sp_70_3 : ptr 70 3 = 46 := rfl
theorem sp_70_4 : ptr 70 4 = 48 := rfl
theorem sp_70_5 : ptr 70 5 = 71 := rfl
theorem sp_70_6 : ptr 70 6 = 76 := rfl
theorem sp_70_7 : ptr 70 7 = 75 := rfl
theorem so_71 : skind 71 = 0 ∧ 0 < 20 ∧ 71 < NC := ⟨rfl, by decide, by decide⟩
theorem rc_71 : rcvOk 71 "BreathTown$Code" := Or.inl ⟨by decide, by decide, rfl⟩
theorem sp_71_0 : ptr 71 0 = 72 := rfl
theorem sp_71_1 : ptr 71 1 = 73 := rfl
theorem sp_71_2 : ptr 71 2 = 74 := rfl
theorem sa_72 : skind 72 = 20 ∧ 72 < NC := ⟨rfl, by decide⟩
theorem sn_72 : slen 72 = 1600 := rfl
theorem sa_73 : skind 73 = 20 ∧ 73 < NC := ⟨rfl, by decide⟩
theorem sn_73 : slen 73 = 64 := rfl
theorem sa_74 : skind 74 = 20 ∧ 74 < NC := ⟨rfl, by decide⟩
theorem sn_74 : slen 74 = 36 := rfl
theorem sa_75 : skind 75 = 20 ∧ 75 < NC := ⟨rfl, by decide⟩
theorem sn_75 : slen 75 = 201 := rfl
theorem so_76 : skind 76 = 4 ∧ 4 < 20 ∧ 76 < NC := ⟨rfl, by decide, by decide⟩
theorem rc_76 : rcvOk 76 "BreathTown$Reader" := Or.inl ⟨by decide, by decide, rfl⟩
theorem sp_76_0 : ptr 76 0 = 1 := rfl
theorem sp_76_1 : ptr 76 1 = 71 := rfl
theorem sa_77 : skind 77 = 20 ∧ 77 < NC := ⟨rfl, by decide⟩
theorem sn_77 : slen 77 = 6 := rfl
theorem so_78 : skind 78 = 12 ∧ 12 < 20 ∧ 78 < NC := ⟨rfl, by decide, by decide⟩
theorem rc_78 : rcvOk 78 "BreathTownModel" := Or.inl ⟨by decide, by decide, rfl⟩
theorem sp_78_0 : ptr 78 0 = 79 := rfl
theorem sp_78_9 : ptr 78 9 = 80 := rfl
theorem sp_78_10 : ptr 78 10 = 81 := rfl
theorem sp_78_11 : ptr 78 11 = 82 := rfl
theorem sp_78_12 : ptr 78 12 = 83 := rfl
theorem sp_78_13 : ptr 78 13 = 84 := rfl
theorem sp_78_14 : ptr 78 14 = 85 := rfl
theorem sp_78_15 : ptr 78 15 = 86 := rfl
theorem sp_78_16 : ptr 78 16 = 87 := rfl
theorem sp_78_17 : ptr 78 17 = 88 := rfl
theorem sp_78_18 : ptr 78 18 = 89 := rfl
theorem sp_78_19 : ptr 78 19 = 90 := rfl
theorem sp_78_20 : ptr 78 20 = 91 := rfl
theorem sp_78_21 : ptr 78 21 = 92 := rfl
theorem sp_78_22 : ptr 78 22 = 93 := rfl
theorem sp_78_23 : ptr 78 23 = 94 := rfl
theorem sp_78_24 : ptr 78 24 = 95 := rfl
theorem sp_78_25 : ptr 78 25 = 96 := rfl
theorem sp_78_26 : ptr 78 26 = 97 := rfl
theorem sp_78_28 : ptr 78 28 = 98 := rfl
theorem sp_78_29 : ptr 78 29 = 99 := rfl
theorem sp_78_30 : ptr 78 30 = 100 := rfl
theorem sp_78_31 : ptr 78 31 = 101 := rfl
theorem sp_78_34 : ptr 78 34 = 102 := rfl
theorem sp_78_36 : ptr 78 36 = 103 := rfl
theorem sp_78_39 : ptr 78 39 = 104 := rfl
theorem sp_78_40 : ptr 78 40 = 105 := rfl
theorem sp_78_42 : ptr 78 42 = 106 := rfl
theorem sp_78_44 : ptr 78 44 = 107 := rfl
theorem sp_78_45 : ptr 78 45 = 108 := rfl
theorem sp_78_46 : ptr 78 46 = 109 := rfl
theorem sp_78_48 : ptr 78 48 = 110 := rfl
theorem sp_78_49 : ptr 78 49 = 111 := rfl
theorem sp_78_50 : ptr 78 50 = 112 := rfl
theorem sp_78_52 : ptr 78 52 = 113 := rfl
theorem sp_78_53 : ptr 78 53 = 114 := rfl
theorem sp_78_54 : ptr 78 54 = 115 := rfl
theorem sp_78_55 : ptr 78 55 = 116 := rfl
theorem sp_78_56 : ptr 78 56 = 117 := rfl
theorem sp_78_59 : ptr 78 59 = 118 := rfl
theorem sp_78_61 : ptr 78 61 = 119 := rfl
theorem sp_78_62 : ptr 78 62 = 120 := rfl
theorem sp_78_67 : ptr 78 67 = 121 := rfl
theorem sp_78_68 : ptr 78 68 = 122 := rfl
theorem sp_78_69 : ptr 78 69 = 123 := rfl
theorem sp_78_70 : ptr 78 70 = 124 := rfl
theorem sp_78_71 : ptr 78 71 = 125 := rfl
theorem sp_78_72 : ptr 78 72 = 126 := rfl
theorem sp_78_73 : ptr 78 73 = 127 := rfl
theorem sp_78_74 : ptr 78 74 = 128 := rfl
theorem sp_78_75 : ptr 78 75 = 129 := rfl
theorem sp_78_76 : ptr 78 76 = 130 := rfl
theorem sp_78_77 : ptr 78 77 = 131 := rfl
theorem sp_78_78 : ptr 78 78 = 132 := rfl
theorem sp_78_79 : ptr 78 79 = 133 := rfl
theorem sp_78_80 : ptr 78 80 = 134 := rfl
theorem sp_78_81 : ptr 78 81 = 135 := rfl
theorem sp_78_82 : ptr 78 82 = 136 := rfl
theorem sp_78_83 : ptr 78 83 = 137 := rfl
theorem sp_78_84 : ptr 78 84 = 138 := rfl
theorem sp_78_85 : ptr 78 85 = 139 := rfl
theorem sp_78_86 : ptr 78 86 = 140 := rfl
theorem sp_78_87 : ptr 78 87 = 141 := rfl
theorem sp_78_88 : ptr 78 88 = 142 := rfl
theorem sp_78_90 : ptr 78 90 = 143 := rfl
theorem sp_78_94 : ptr 78 94 = 144 := rfl
theorem sp_78_98 : ptr 78 98 = 145 := rfl
theorem sa_79 : skind 79 = 20 ∧ 79 < NC := ⟨rfl, by decide⟩
theorem sn_79 : slen 79 = 1600 := rfl
theorem sa_80 : skind 80 = 20 ∧ 80 < NC := ⟨rfl, by decide⟩
theorem sn_80 : slen 80 = 6 := rfl
theorem sa_81 : skind 81 = 23 ∧ 81 < NC := ⟨rfl, by decide⟩
theorem sn_81 : slen 81 = 5 := rfl
theorem sa_82 : skind 82 = 23 ∧ 82 < NC := ⟨rfl, by decide⟩
theorem sn_82 : slen 82 = 6 := rfl
theorem sa_83 : skind 83 = 23 ∧ 83 < NC := ⟨rfl, by decide⟩
theorem sn_83 : slen 83 = 4 := rfl
theorem sa_84 : skind 84 = 23 ∧ 84 < NC := ⟨rfl, by decide⟩
theorem sn_84 : slen 84 = 2 := rfl
theorem sa_85 : skind 85 = 23 ∧ 85 < NC := ⟨rfl, by decide⟩
theorem sn_85 : slen 85 = 5 := rfl
theorem sa_86 : skind 86 = 23 ∧ 86 < NC := ⟨rfl, by decide⟩
theorem sn_86 : slen 86 = 5 := rfl
theorem sa_87 : skind 87 = 23 ∧ 87 < NC := ⟨rfl, by decide⟩
theorem sn_87 : slen 87 = 5 := rfl
theorem sa_88 : skind 88 = 23 ∧ 88 < NC := ⟨rfl, by decide⟩
theorem sn_88 : slen 88 = 4 := rfl
theorem sa_89 : skind 89 = 23 ∧ 89 < NC := ⟨rfl, by decide⟩
theorem sn_89 : slen 89 = 6 := rfl
theorem sa_90 : skind 90 = 23 ∧ 90 < NC := ⟨rfl, by decide⟩
theorem sn_90 : slen 90 = 5 := rfl
theorem sa_91 : skind 91 = 23 ∧ 91 < NC := ⟨rfl, by decide⟩
theorem sn_91 : slen 91 = 2 := rfl
theorem sa_92 : skind 92 = 23 ∧ 92 < NC := ⟨rfl, by decide⟩
theorem sn_92 : slen 92 = 5 := rfl
theorem sa_93 : skind 93 = 23 ∧ 93 < NC := ⟨rfl, by decide⟩
theorem sn_93 : slen 93 = 4 := rfl
theorem sa_94 : skind 94 = 23 ∧ 94 < NC := ⟨rfl, by decide⟩
theorem sn_94 : slen 94 = 5 := rfl
theorem sa_95 : skind 95 = 23 ∧ 95 < NC := ⟨rfl, by decide⟩
theorem sn_95 : slen 95 = 3 := rfl
theorem sa_96 : skind 96 = 23 ∧ 96 < NC := ⟨rfl, by decide⟩
theorem sn_96 : slen 96 = 3 := rfl
theorem sa_97 : skind 97 = 23 ∧ 97 < NC := ⟨rfl, by decide⟩
theorem sn_97 : slen 97 = 3 := rfl
theorem sa_98 : skind 98 = 20 ∧ 98 < NC := ⟨rfl, by decide⟩
theorem sn_98 : slen 98 = 6 := rfl
theorem sa_99 : skind 99 = 21 ∧ 99 < NC := ⟨rfl, by decide⟩
theorem sn_99 : slen 99 = 72 := rfl
theorem sa_100 : skind 100 = 20 ∧ 100 < NC := ⟨rfl, by decide⟩
theorem sn_100 : slen 100 = 120 := rfl
theorem sa_101 : skind 101 = 20 ∧ 101 < NC := ⟨rfl, by decide⟩
theorem sn_101 : slen 101 = 36 := rfl
theorem sa_102 : skind 102 = 20 ∧ 102 < NC := ⟨rfl, by decide⟩
theorem sn_102 : slen 102 = 3200 := rfl
theorem sa_103 : skind 103 = 20 ∧ 103 < NC := ⟨rfl, by decide⟩
theorem sn_103 : slen 103 = 1700 := rfl
theorem sa_104 : skind 104 = 20 ∧ 104 < NC := ⟨rfl, by decide⟩
theorem sn_104 : slen 104 = 24 := rfl
theorem sa_105 : skind 105 = 20 ∧ 105 < NC := ⟨rfl, by decide⟩
theorem sn_105 : slen 105 = 24 := rfl
theorem sa_106 : skind 106 = 21 ∧ 106 < NC := ⟨rfl, by decide⟩
theorem sn_106 : slen 106 = 1700 := rfl
theorem sa_107 : skind 107 = 20 ∧ 107 < NC := ⟨rfl, by decide⟩
theorem sn_107 : slen 107 = 4 := rfl
theorem sa_108 : skind 108 = 20 ∧ 108 < NC := ⟨rfl, by decide⟩
theorem sn_108 : slen 108 = 31 := rfl
theorem sa_109 : skind 109 = 20 ∧ 109 < NC := ⟨rfl, by decide⟩
theorem sn_109 : slen 109 = 200 := rfl
theorem sa_110 : skind 110 = 20 ∧ 110 < NC := ⟨rfl, by decide⟩
theorem sn_110 : slen 110 = 9 := rfl
theorem sa_111 : skind 111 = 20 ∧ 111 < NC := ⟨rfl, by decide⟩
theorem sn_111 : slen 111 = 12 := rfl
theorem sa_112 : skind 112 = 20 ∧ 112 < NC := ⟨rfl, by decide⟩
theorem sn_112 : slen 112 = 12 := rfl
theorem sa_113 : skind 113 = 20 ∧ 113 < NC := ⟨rfl, by decide⟩
theorem sn_113 : slen 113 = 9 := rfl
theorem sa_114 : skind 114 = 20 ∧ 114 < NC := ⟨rfl, by decide⟩
theorem sn_114 : slen 114 = 4 := rfl
theorem sa_115 : skind 115 = 20 ∧ 115 < NC := ⟨rfl, by decide⟩
theorem sn_115 : slen 115 = 4 := rfl
theorem sa_116 : skind 116 = 20 ∧ 116 < NC := ⟨rfl, by decide⟩
theorem sn_116 : slen 116 = 4 := rfl
theorem sa_117 : skind 117 = 20 ∧ 117 < NC := ⟨rfl, by decide⟩
theorem sn_117 : slen 117 = 4 := rfl
theorem sa_118 : skind 118 = 20 ∧ 118 < NC := ⟨rfl, by decide⟩
theorem sn_118 : slen 118 = 216 := rfl
theorem sa_119 : skind 119 = 20 ∧ 119 < NC := ⟨rfl, by decide⟩
theorem sn_119 : slen 119 = 3 := rfl
theorem sa_120 : skind 120 = 20 ∧ 120 < NC := ⟨rfl, by decide⟩
theorem sn_120 : slen 120 = 620 := rfl
theorem sa_121 : skind 121 = 20 ∧ 121 < NC := ⟨rfl, by decide⟩
theorem sn_121 : slen 121 = 60 := rfl
theorem sa_122 : skind 122 = 22 ∧ 122 < NC := ⟨rfl, by decide⟩
theorem sn_122 : slen 122 = 48 := rfl
theorem sa_123 : skind 123 = 20 ∧ 123 < NC := ⟨rfl, by decide⟩
theorem sn_123 : slen 123 = 100 := rfl
theorem sa_124 : skind 124 = 23 ∧ 124 < NC := ⟨rfl, by decide⟩
theorem sn_124 : slen 124 = 5 := rfl
theorem sa_125 : skind 125 = 23 ∧ 125 < NC := ⟨rfl, by decide⟩
theorem sn_125 : slen 125 = 4 := rfl
theorem sa_126 : skind 126 = 23 ∧ 126 < NC := ⟨rfl, by decide⟩
theorem sn_126 : slen 126 = 5 := rfl
theorem sa_127 : skind 127 = 23 ∧ 127 < NC := ⟨rfl, by decide⟩
theorem sn_127 : slen 127 = 5 := rfl
theorem sa_128 : skind 128 = 23 ∧ 128 < NC := ⟨rfl, by decide⟩
theorem sn_128 : slen 128 = 4 := rfl
theorem sa_129 : skind 129 = 23 ∧ 129 < NC := ⟨rfl, by decide⟩
theorem sn_129 : slen 129 = 5 := rfl
theorem sa_130 : skind 130 = 23 ∧ 130 < NC := ⟨rfl, by decide⟩
theorem sn_130 : slen 130 = 3 := rfl
theorem sa_131 : skind 131 = 23 ∧ 131 < NC := ⟨rfl, by decide⟩
theorem sn_131 : slen 131 = 3 := rfl
theorem sa_132 : skind 132 = 23 ∧ 132 < NC := ⟨rfl, by decide⟩
theorem sn_132 : slen 132 = 2 := rfl
theorem sa_133 : skind 133 = 23 ∧ 133 < NC := ⟨rfl, by decide⟩
theorem sn_133 : slen 133 = 3 := rfl
theorem sa_134 : skind 134 = 23 ∧ 134 < NC := ⟨rfl, by decide⟩
theorem sn_134 : slen 134 = 3 := rfl
theorem sa_135 : skind 135 = 23 ∧ 135 < NC := ⟨rfl, by decide⟩
theorem sn_135 : slen 135 = 3 := rfl
theorem sa_136 : skind 136 = 23 ∧ 136 < NC := ⟨rfl, by decide⟩
theorem sn_136 : slen 136 = 4 := rfl
theorem sa_137 : skind 137 = 23 ∧ 137 < NC := ⟨rfl, by decide⟩
theorem sn_137 : slen 137 = 5 := rfl
theorem sa_138 : skind 138 = 23 ∧ 138 < NC := ⟨rfl, by decide⟩
theorem sn_138 : slen 138 = 3 := rfl
theorem sa_139 : skind 139 = 23 ∧ 139 < NC := ⟨rfl, by decide⟩
theorem sn_139 : slen 139 = 5 := rfl
theorem sa_140 : skind 140 = 23 ∧ 140 < NC := ⟨rfl, by decide⟩
theorem sn_140 : slen 140 = 4 := rfl
theorem sa_141 : skind 141 = 23 ∧ 141 < NC := ⟨rfl, by decide⟩
theorem sn_141 : slen 141 = 6 := rfl
theorem sa_142 : skind 142 = 20 ∧ 142 < NC := ⟨rfl, by decide⟩
theorem sn_142 : slen 142 = 1700 := rfl
theorem sa_143 : skind 143 = 20 ∧ 143 < NC := ⟨rfl, by decide⟩
theorem sn_143 : slen 143 = 1700 := rfl
theorem sa_144 : skind 144 = 21 ∧ 144 < NC := ⟨rfl, by decide⟩
theorem sn_144 : slen 144 = 1700 := rfl
theorem sa_145 : skind 145 = 20 ∧ 145 < NC := ⟨rfl, by decide⟩
theorem sn_145 : slen 145 = 39 := rfl
theorem fo_Scan_9 : fldOk "BreathTown$Scan" 9 5 0 := ⟨"BreathTown$Scan", TX5, 7, rfl, by decide, in_1 (List.mem_of_getElem? (i := 33) rfl), rfl⟩
theorem fo_Now_106 : fldOk "BreathTown$Now" 106 5 0 := ⟨"BreathTown$Scan", TX5, 7, rfl, by decide, in_1 (List.mem_of_getElem? (i := 34) rfl), rfl⟩
theorem fo_Seen_39 : fldOk "BreathTown$Seen" 39 5 1 := ⟨"BreathTown$Scan", TX5, 7, rfl, by decide, in_1 (List.mem_of_getElem? (i := 35) rfl), rfl⟩
theorem fo_BT_102 : fldOk "BreathTown" 102 5 1 := ⟨"BreathTown$Scan", TX5, 7, rfl, by decide, in_1 (List.mem_of_getElem? (i := 36) rfl), rfl⟩
theorem fo_Scan_15 : fldOk "BreathTown$Scan" 15 5 1 := ⟨"BreathTown$Scan", TX5, 7, rfl, by decide, in_1 (List.mem_of_getElem? (i := 37) rfl), rfl⟩
theorem fo_Now_103 : fldOk "BreathTown$Now" 103 5 1 := ⟨"BreathTown$Scan", TX5, 7, rfl, by decide, in_1 (List.mem_of_getElem? (i := 38) rfl), rfl⟩
theorem fo_TownR_45 : fldOk "BreathTown$TownReader" 45 5 2 := ⟨"BreathTown$Scan", TX5, 7, rfl, by decide, in_1 (List.mem_of_getElem? (i := 39) rfl), rfl⟩
theorem fo_Scan_23 : fldOk "BreathTown$Scan" 23 5 2 := ⟨"BreathTown$Scan", TX5, 7, rfl, by decide, in_1 (List.mem_of_getElem? (i := 40) rfl), rfl⟩
theorem fo_Reader_30 : fldOk "BreathTown$Reader" 30 5 2 := ⟨"BreathTown$Scan", TX5, 7, rfl, by decide, in_1 (List.mem_of_getElem? (i := 41) rfl), rfl⟩
theorem fo_Scan_26 : fldOk "BreathTown$Scan" 26 5 3 := ⟨"BreathTown$Scan", TX5, 7, rfl, by decide, in_1 (List.mem_of_getElem? (i := 42) rfl), rfl⟩
theorem fo_Scan_29 : fldOk "BreathTown$Scan" 29 5 4 := ⟨"BreathTown$Scan", TX5, 7, rfl, by decide, in_1 (List.mem_of_getElem? (i := 43) rfl), rfl⟩
theorem fo_TownR_104 : fldOk "BreathTown$TownReader" 104 5 4 := ⟨"BreathTown$Scan", TX5, 7, rfl, by decide, in_1 (List.mem_of_getElem? (i := 44) rfl), rfl⟩
theorem fo_Scan_32 : fldOk "BreathTown$Scan" 32 5 5 := ⟨"BreathTown$Scan", TX5, 7, rfl, by decide, in_1 (List.mem_of_getElem? (i := 45) rfl), rfl⟩
theorem fo_BT_309 : fldOk "BreathTown" 309 5 5 := ⟨"BreathTown$Scan", TX5, 7, rfl, by decide, in_1 (List.mem_of_getElem? (i := 46) rfl), rfl⟩
theorem fo_Scan_35 : fldOk "BreathTown$Scan" 35 5 6 := ⟨"BreathTown$Scan", TX5, 7, rfl, by decide, in_1 (List.mem_of_getElem? (i := 47) rfl), rfl⟩
theorem fo_BT_312 : fldOk "BreathTown" 312 5 6 := ⟨"BreathTown$Scan", TX5, 7, rfl, by decide, in_1 (List.mem_of_getElem? (i := 48) rfl), rfl⟩
theorem fo_Code_9 : fldOk "BreathTown$Code" 9 0 0 := ⟨"BreathTown$Code", TX0, 5, rfl, by decide, in_1 (List.mem_of_getElem? (i := 77) rfl), rfl⟩
theorem fo_Code_15 : fldOk "BreathTown$Code" 15 0 1 := ⟨"BreathTown$Code", TX0, 5, rfl, by decide, in_1 (List.mem_of_getElem? (i := 78) rfl), rfl⟩
theorem fo_Code_18 : fldOk "BreathTown$Code" 18 0 2 := ⟨"BreathTown$Code", TX0, 5, rfl, by decide, in_1 (List.mem_of_getElem? (i := 79) rfl), rfl⟩
theorem fo_Quest_126 : fldOk "BreathTown$Question" 126 0 2 := ⟨"BreathTown$Code", TX0, 5, rfl, by decide, in_1 (List.mem_of_getElem? (i := 80) rfl), rfl⟩
theorem fo_Code_21 : fldOk "BreathTown$Code" 21 0 3 := ⟨"BreathTown$Code", TX0, 5, rfl, by decide, in_1 (List.mem_of_getElem? (i := 81) rfl), rfl⟩
theorem fo_Quest_102 : fldOk "BreathTown$Question" 102 0 3 := ⟨"BreathTown$Code", TX0, 5, rfl, by decide, in_1 (List.mem_of_getElem? (i := 82) rfl), rfl⟩
theorem fo_TownR_154 : fldOk "BreathTown$TownReader" 154 0 3 := ⟨"BreathTown$Code", TX0, 5, rfl, by decide, in_1 (List.mem_of_getElem? (i := 83) rfl), rfl⟩
theorem fo_Code_25 : fldOk "BreathTown$Code" 25 0 4 := ⟨"BreathTown$Code", TX0, 5, rfl, by decide, in_1 (List.mem_of_getElem? (i := 84) rfl), rfl⟩
theorem fo_Told_9 : fldOk "BreathTown$Told" 9 7 0 := ⟨"BreathTown$Told", TX7, 14, rfl, by decide, in_1 (List.mem_of_getElem? (i := 96) rfl), rfl⟩
theorem fo_Told_15 : fldOk "BreathTown$Told" 15 7 1 := ⟨"BreathTown$Told", TX7, 14, rfl, by decide, in_1 (List.mem_of_getElem? (i := 97) rfl), rfl⟩
theorem fo_BT_147 : fldOk "BreathTown" 147 7 1 := ⟨"BreathTown$Told", TX7, 14, rfl, by decide, in_1 (List.mem_of_getElem? (i := 98) rfl), rfl⟩
theorem fo_Told_18 : fldOk "BreathTown$Told" 18 7 2 := ⟨"BreathTown$Told", TX7, 14, rfl, by decide, in_1 (List.mem_of_getElem? (i := 99) rfl), rfl⟩
theorem fo_TownR_112 : fldOk "BreathTown$TownReader" 112 7 2 := ⟨"BreathTown$Told", TX7, 14, rfl, by decide, in_1 (List.mem_of_getElem? (i := 100) rfl), rfl⟩
theorem fo_BT_154 : fldOk "BreathTown" 154 7 2 := ⟨"BreathTown$Told", TX7, 14, rfl, by decide, in_1 (List.mem_of_getElem? (i := 101) rfl), rfl⟩
theorem fo_Many_158 : fldOk "BreathTown$Many" 158 7 2 := ⟨"BreathTown$Told", TX7, 14, rfl, by decide, in_1 (List.mem_of_getElem? (i := 102) rfl), rfl⟩
theorem fo_Told_21 : fldOk "BreathTown$Told" 21 7 3 := ⟨"BreathTown$Told", TX7, 14, rfl, by decide, in_1 (List.mem_of_getElem? (i := 103) rfl), rfl⟩
theorem fo_TownR_125 : fldOk "BreathTown$TownReader" 125 7 3 := ⟨"BreathTown$Told", TX7, 14, rfl, by decide, in_1 (List.mem_of_getElem? (i := 104) rfl), rfl⟩
theorem fo_BT_157 : fldOk "BreathTown" 157 7 3 := ⟨"BreathTown$Told", TX7, 14, rfl, by decide, in_1 (List.mem_of_getElem? (i := 105) rfl), rfl⟩
theorem fo_Many_161 : fldOk "BreathTown$Many" 161 7 3 := ⟨"BreathTown$Told", TX7, 14, rfl, by decide, in_1 (List.mem_of_getElem? (i := 106) rfl), rfl⟩
theorem fo_Told_24 : fldOk "BreathTown$Told" 24 7 4 := ⟨"BreathTown$Told", TX7, 14, rfl, by decide, in_1 (List.mem_of_getElem? (i := 107) rfl), rfl⟩
theorem fo_Ways_42 : fldOk "BreathTown$Ways" 42 7 4 := ⟨"BreathTown$Told", TX7, 14, rfl, by decide, in_1 (List.mem_of_getElem? (i := 108) rfl), rfl⟩
theorem fo_TownR_129 : fldOk "BreathTown$TownReader" 129 7 4 := ⟨"BreathTown$Told", TX7, 14, rfl, by decide, in_1 (List.mem_of_getElem? (i := 109) rfl), rfl⟩
theorem fo_BT_160 : fldOk "BreathTown" 160 7 4 := ⟨"BreathTown$Told", TX7, 14, rfl, by decide, in_1 (List.mem_of_getElem? (i := 110) rfl), rfl⟩
theorem fo_Many_155 : fldOk "BreathTown$Many" 155 7 4 := ⟨"BreathTown$Told", TX7, 14, rfl, by decide, in_1 (List.mem_of_getElem? (i := 111) rfl), rfl⟩
theorem fo_Told_27 : fldOk "BreathTown$Told" 27 7 5 := ⟨"BreathTown$Told", TX7, 14, rfl, by decide, in_1 (List.mem_of_getElem? (i := 112) rfl), rfl⟩
theorem fo_Widths_27 : fldOk "BreathTown$Widths" 27 7 5 := ⟨"BreathTown$Told", TX7, 14, rfl, by decide, in_1 (List.mem_of_getElem? (i := 113) rfl), rfl⟩
theorem fo_Seen_62 : fldOk "BreathTown$Seen" 62 7 5 := ⟨"BreathTown$Told", TX7, 14, rfl, by decide, in_1 (List.mem_of_getElem? (i := 114) rfl), rfl⟩
theorem fo_Now_71 : fldOk "BreathTown$Now" 71 7 5 := ⟨"BreathTown$Told", TX7, 14, rfl, by decide, in_1 (List.mem_of_getElem? (i := 115) rfl), rfl⟩
theorem fo_TownR_137 : fldOk "BreathTown$TownReader" 137 7 5 := ⟨"BreathTown$Told", TX7, 14, rfl, by decide, in_1 (List.mem_of_getElem? (i := 116) rfl), rfl⟩
theorem fo_BT_163 : fldOk "BreathTown" 163 7 5 := ⟨"BreathTown$Told", TX7, 14, rfl, by decide, in_1 (List.mem_of_getElem? (i := 117) rfl), rfl⟩
theorem fo_Told_30 : fldOk "BreathTown$Told" 30 7 6 := ⟨"BreathTown$Told", TX7, 14, rfl, by decide, in_1 (List.mem_of_getElem? (i := 118) rfl), rfl⟩
theorem fo_Now_46 : fldOk "BreathTown$Now" 46 7 6 := ⟨"BreathTown$Told", TX7, 14, rfl, by decide, in_1 (List.mem_of_getElem? (i := 119) rfl), rfl⟩
theorem fo_TownR_142 : fldOk "BreathTown$TownReader" 142 7 6 := ⟨"BreathTown$Told", TX7, 14, rfl, by decide, in_1 (List.mem_of_getElem? (i := 120) rfl), rfl⟩
theorem fo_Told_33 : fldOk "BreathTown$Told" 33 7 7 := ⟨"BreathTown$Told", TX7, 14, rfl, by decide, in_1 (List.mem_of_getElem? (i := 121) rfl), rfl⟩
theorem fo_TownR_151 : fldOk "BreathTown$TownReader" 151 7 7 := ⟨"BreathTown$Told", TX7, 14, rfl, by decide, in_1 (List.mem_of_getElem? (i := 122) rfl), rfl⟩
theorem fo_Widths_61 : fldOk "BreathTown$Widths" 61 7 7 := ⟨"BreathTown$Told", TX7, 14, rfl, by decide, in_1 (List.mem_of_getElem? (i := 123) rfl), rfl⟩
theorem fo_Told_36 : fldOk "BreathTown$Told" 36 7 8 := ⟨"BreathTown$Told", TX7, 14, rfl, by decide, in_1 (List.mem_of_getElem? (i := 124) rfl), rfl⟩
theorem fo_TownR_162 : fldOk "BreathTown$TownReader" 162 7 8 := ⟨"BreathTown$Told", TX7, 14, rfl, by decide, in_1 (List.mem_of_getElem? (i := 125) rfl), rfl⟩
theorem fo_Widths_64 : fldOk "BreathTown$Widths" 64 7 8 := ⟨"BreathTown$Told", TX7, 14, rfl, by decide, in_1 (List.mem_of_getElem? (i := 126) rfl), rfl⟩
theorem fo_Told_39 : fldOk "BreathTown$Told" 39 7 9 := ⟨"BreathTown$Told", TX7, 14, rfl, by decide, in_1 (List.mem_of_getElem? (i := 127) rfl), rfl⟩
theorem fo_Many_85 : fldOk "BreathTown$Many" 85 7 9 := ⟨"BreathTown$Told", TX7, 14, rfl, by decide, in_1 (List.mem_of_getElem? (i := 128) rfl), rfl⟩
theorem fo_TownR_167 : fldOk "BreathTown$TownReader" 167 7 9 := ⟨"BreathTown$Told", TX7, 14, rfl, by decide, in_1 (List.mem_of_getElem? (i := 129) rfl), rfl⟩
theorem fo_Quest_154 : fldOk "BreathTown$Question" 154 7 9 := ⟨"BreathTown$Told", TX7, 14, rfl, by decide, in_1 (List.mem_of_getElem? (i := 130) rfl), rfl⟩
theorem fo_BT_176 : fldOk "BreathTown" 176 7 9 := ⟨"BreathTown$Told", TX7, 14, rfl, by decide, in_1 (List.mem_of_getElem? (i := 131) rfl), rfl⟩
theorem fo_Ways_104 : fldOk "BreathTown$Ways" 104 7 9 := ⟨"BreathTown$Told", TX7, 14, rfl, by decide, in_1 (List.mem_of_getElem? (i := 132) rfl), rfl⟩
theorem fo_Told_42 : fldOk "BreathTown$Told" 42 7 10 := ⟨"BreathTown$Told", TX7, 14, rfl, by decide, in_1 (List.mem_of_getElem? (i := 133) rfl), rfl⟩
theorem fo_Now_51 : fldOk "BreathTown$Now" 51 7 10 := ⟨"BreathTown$Told", TX7, 14, rfl, by decide, in_1 (List.mem_of_getElem? (i := 134) rfl), rfl⟩
theorem fo_TownR_172 : fldOk "BreathTown$TownReader" 172 7 10 := ⟨"BreathTown$Told", TX7, 14, rfl, by decide, in_1 (List.mem_of_getElem? (i := 135) rfl), rfl⟩
theorem fo_Told_45 : fldOk "BreathTown$Told" 45 7 11 := ⟨"BreathTown$Told", TX7, 14, rfl, by decide, in_1 (List.mem_of_getElem? (i := 136) rfl), rfl⟩
theorem fo_Now_52 : fldOk "BreathTown$Now" 52 7 11 := ⟨"BreathTown$Told", TX7, 14, rfl, by decide, in_1 (List.mem_of_getElem? (i := 137) rfl), rfl⟩
theorem fo_TownR_175 : fldOk "BreathTown$TownReader" 175 7 11 := ⟨"BreathTown$Told", TX7, 14, rfl, by decide, in_1 (List.mem_of_getElem? (i := 138) rfl), rfl⟩
theorem fo_TownR_21 : fldOk "BreathTown$TownReader" 21 7 12 := ⟨"BreathTown$Told", TX7, 14, rfl, by decide, in_1 (List.mem_of_getElem? (i := 139) rfl), rfl⟩
theorem fo_Told_51 : fldOk "BreathTown$Told" 51 7 12 := ⟨"BreathTown$Told", TX7, 14, rfl, by decide, in_1 (List.mem_of_getElem? (i := 140) rfl), rfl⟩
theorem fo_Widths_57 : fldOk "BreathTown$Widths" 57 7 12 := ⟨"BreathTown$Told", TX7, 14, rfl, by decide, in_1 (List.mem_of_getElem? (i := 141) rfl), rfl⟩
theorem fo_Now_34 : fldOk "BreathTown$Now" 34 7 13 := ⟨"BreathTown$Told", TX7, 14, rfl, by decide, in_1 (List.mem_of_getElem? (i := 142) rfl), rfl⟩
theorem fo_Told_62 : fldOk "BreathTown$Told" 62 7 13 := ⟨"BreathTown$Told", TX7, 14, rfl, by decide, in_1 (List.mem_of_getElem? (i := 143) rfl), rfl⟩
theorem fo_TownR_91 : fldOk "BreathTown$TownReader" 91 7 13 := ⟨"BreathTown$Told", TX7, 14, rfl, by decide, in_1 (List.mem_of_getElem? (i := 144) rfl), rfl⟩
theorem fo_Reader_9 : fldOk "BreathTown$Reader" 9 4 0 := ⟨"BreathTown$Reader", TX4, 3, rfl, by decide, in_1 (List.mem_of_getElem? (i := 186) rfl), rfl⟩
theorem fo_Reader_15 : fldOk "BreathTown$Reader" 15 4 1 := ⟨"BreathTown$Reader", TX4, 3, rfl, by decide, in_1 (List.mem_of_getElem? (i := 187) rfl), rfl⟩
theorem fo_Reader_19 : fldOk "BreathTown$Reader" 19 4 2 := ⟨"BreathTown$Reader", TX4, 3, rfl, by decide, in_1 (List.mem_of_getElem? (i := 188) rfl), rfl⟩
theorem fo_TownR_9 : fldOk "BreathTown$TownReader" 9 8 0 := ⟨"BreathTown$TownReader", TX8, 3, rfl, by decide, in_1 (List.mem_of_getElem? (i := 196) rfl), rfl⟩
theorem fo_TownR_15 : fldOk "BreathTown$TownReader" 15 8 1 := ⟨"BreathTown$TownReader", TX8, 3, rfl, by decide, in_1 (List.mem_of_getElem? (i := 197) rfl), rfl⟩
theorem fo_TownR_30 : fldOk "BreathTown$TownReader" 30 8 2 := ⟨"BreathTown$TownReader", TX8, 3, rfl, by decide, in_1 (List.mem_of_getElem? (i := 198) rfl), rfl⟩
theorem fo_Now_30 : fldOk "BreathTown$Now" 30 2 0 := ⟨"BreathTown$Now", TX2, 10, rfl, by decide, in_1 (List.mem_of_getElem? (i := 212) rfl), rfl⟩
theorem fo_Now_9 : fldOk "BreathTown$Now" 9 2 1 := ⟨"BreathTown$Now", TX2, 10, rfl, by decide, in_1 (List.mem_of_getElem? (i := 213) rfl), rfl⟩
theorem fo_Ways_51 : fldOk "BreathTown$Ways" 51 2 1 := ⟨"BreathTown$Now", TX2, 10, rfl, by decide, in_1 (List.mem_of_getElem? (i := 214) rfl), rfl⟩
theorem fo_Widths_43 : fldOk "BreathTown$Widths" 43 2 1 := ⟨"BreathTown$Now", TX2, 10, rfl, by decide, in_1 (List.mem_of_getElem? (i := 215) rfl), rfl⟩
theorem fo_BT_166 : fldOk "BreathTown" 166 2 1 := ⟨"BreathTown$Now", TX2, 10, rfl, by decide, in_1 (List.mem_of_getElem? (i := 216) rfl), rfl⟩
theorem fo_Now_15 : fldOk "BreathTown$Now" 15 2 2 := ⟨"BreathTown$Now", TX2, 10, rfl, by decide, in_1 (List.mem_of_getElem? (i := 217) rfl), rfl⟩
theorem fo_Many_90 : fldOk "BreathTown$Many" 90 2 2 := ⟨"BreathTown$Now", TX2, 10, rfl, by decide, in_1 (List.mem_of_getElem? (i := 218) rfl), rfl⟩
theorem fo_BT_179 : fldOk "BreathTown" 179 2 2 := ⟨"BreathTown$Now", TX2, 10, rfl, by decide, in_1 (List.mem_of_getElem? (i := 219) rfl), rfl⟩
theorem fo_Ways_107 : fldOk "BreathTown$Ways" 107 2 2 := ⟨"BreathTown$Now", TX2, 10, rfl, by decide, in_1 (List.mem_of_getElem? (i := 220) rfl), rfl⟩
theorem fo_Now_18 : fldOk "BreathTown$Now" 18 2 3 := ⟨"BreathTown$Now", TX2, 10, rfl, by decide, in_1 (List.mem_of_getElem? (i := 221) rfl), rfl⟩
theorem fo_Many_103 : fldOk "BreathTown$Many" 103 2 3 := ⟨"BreathTown$Now", TX2, 10, rfl, by decide, in_1 (List.mem_of_getElem? (i := 222) rfl), rfl⟩
theorem fo_BT_182 : fldOk "BreathTown" 182 2 3 := ⟨"BreathTown$Now", TX2, 10, rfl, by decide, in_1 (List.mem_of_getElem? (i := 223) rfl), rfl⟩
theorem fo_Ways_131 : fldOk "BreathTown$Ways" 131 2 3 := ⟨"BreathTown$Now", TX2, 10, rfl, by decide, in_1 (List.mem_of_getElem? (i := 224) rfl), rfl⟩
theorem fo_Now_21 : fldOk "BreathTown$Now" 21 2 4 := ⟨"BreathTown$Now", TX2, 10, rfl, by decide, in_1 (List.mem_of_getElem? (i := 225) rfl), rfl⟩
theorem fo_BT_185 : fldOk "BreathTown" 185 2 4 := ⟨"BreathTown$Now", TX2, 10, rfl, by decide, in_1 (List.mem_of_getElem? (i := 226) rfl), rfl⟩
theorem fo_Now_24 : fldOk "BreathTown$Now" 24 2 5 := ⟨"BreathTown$Now", TX2, 10, rfl, by decide, in_1 (List.mem_of_getElem? (i := 227) rfl), rfl⟩
theorem fo_Now_27 : fldOk "BreathTown$Now" 27 2 6 := ⟨"BreathTown$Now", TX2, 10, rfl, by decide, in_1 (List.mem_of_getElem? (i := 228) rfl), rfl⟩
theorem fo_BT_295 : fldOk "BreathTown" 295 2 6 := ⟨"BreathTown$Now", TX2, 10, rfl, by decide, in_1 (List.mem_of_getElem? (i := 229) rfl), rfl⟩
theorem fo_Now_85 : fldOk "BreathTown$Now" 85 2 7 := ⟨"BreathTown$Now", TX2, 10, rfl, by decide, in_1 (List.mem_of_getElem? (i := 230) rfl), rfl⟩
theorem fo_BT_292 : fldOk "BreathTown" 292 2 7 := ⟨"BreathTown$Now", TX2, 10, rfl, by decide, in_1 (List.mem_of_getElem? (i := 231) rfl), rfl⟩
theorem fo_Now_40 : fldOk "BreathTown$Now" 40 2 8 := ⟨"BreathTown$Now", TX2, 10, rfl, by decide, in_1 (List.mem_of_getElem? (i := 232) rfl), rfl⟩
theorem fo_Quest_92 : fldOk "BreathTown$Question" 92 2 8 := ⟨"BreathTown$Now", TX2, 10, rfl, by decide, in_1 (List.mem_of_getElem? (i := 233) rfl), rfl⟩
theorem fo_Seen_82 : fldOk "BreathTown$Seen" 82 2 8 := ⟨"BreathTown$Now", TX2, 10, rfl, by decide, in_1 (List.mem_of_getElem? (i := 234) rfl), rfl⟩
theorem fo_BT_134 : fldOk "BreathTown" 134 2 8 := ⟨"BreathTown$Now", TX2, 10, rfl, by decide, in_1 (List.mem_of_getElem? (i := 235) rfl), rfl⟩
theorem fo_Widths_73 : fldOk "BreathTown$Widths" 73 2 8 := ⟨"BreathTown$Now", TX2, 10, rfl, by decide, in_1 (List.mem_of_getElem? (i := 236) rfl), rfl⟩
theorem fo_Many_147 : fldOk "BreathTown$Many" 147 2 8 := ⟨"BreathTown$Now", TX2, 10, rfl, by decide, in_1 (List.mem_of_getElem? (i := 237) rfl), rfl⟩
theorem fo_Ways_144 : fldOk "BreathTown$Ways" 144 2 8 := ⟨"BreathTown$Now", TX2, 10, rfl, by decide, in_1 (List.mem_of_getElem? (i := 238) rfl), rfl⟩
theorem fo_Now_43 : fldOk "BreathTown$Now" 43 2 9 := ⟨"BreathTown$Now", TX2, 10, rfl, by decide, in_1 (List.mem_of_getElem? (i := 239) rfl), rfl⟩
theorem fo_BT_140 : fldOk "BreathTown" 140 2 9 := ⟨"BreathTown$Now", TX2, 10, rfl, by decide, in_2 (List.mem_of_getElem? (i := 0) rfl), rfl⟩
theorem fo_Widths_15 : fldOk "BreathTown$Widths" 15 10 0 := ⟨"BreathTown$Widths", TX10, 4, rfl, by decide, in_2 (List.mem_of_getElem? (i := 28) rfl), rfl⟩
theorem fo_Widths_19 : fldOk "BreathTown$Widths" 19 10 1 := ⟨"BreathTown$Widths", TX10, 4, rfl, by decide, in_2 (List.mem_of_getElem? (i := 29) rfl), rfl⟩
theorem fo_Widths_11 : fldOk "BreathTown$Widths" 11 10 2 := ⟨"BreathTown$Widths", TX10, 4, rfl, by decide, in_2 (List.mem_of_getElem? (i := 30) rfl), rfl⟩
theorem fo_Widths_23 : fldOk "BreathTown$Widths" 23 10 3 := ⟨"BreathTown$Widths", TX10, 4, rfl, by decide, in_2 (List.mem_of_getElem? (i := 31) rfl), rfl⟩
theorem fo_Ways_30 : fldOk "BreathTown$Ways" 30 9 0 := ⟨"BreathTown$Ways", TX9, 11, rfl, by decide, in_2 (List.mem_of_getElem? (i := 48) rfl), rfl⟩
theorem fo_Ways_34 : fldOk "BreathTown$Ways" 34 9 1 := ⟨"BreathTown$Ways", TX9, 11, rfl, by decide, in_2 (List.mem_of_getElem? (i := 49) rfl), rfl⟩
theorem fo_Ways_38 : fldOk "BreathTown$Ways" 38 9 2 := ⟨"BreathTown$Ways", TX9, 11, rfl, by decide, in_2 (List.mem_of_getElem? (i := 50) rfl), rfl⟩
theorem fo_Ways_9 : fldOk "BreathTown$Ways" 9 9 3 := ⟨"BreathTown$Ways", TX9, 11, rfl, by decide, in_2 (List.mem_of_getElem? (i := 51) rfl), rfl⟩
theorem fo_Ways_15 : fldOk "BreathTown$Ways" 15 9 4 := ⟨"BreathTown$Ways", TX9, 11, rfl, by decide, in_2 (List.mem_of_getElem? (i := 52) rfl), rfl⟩
theorem fo_BT_211 : fldOk "BreathTown" 211 9 4 := ⟨"BreathTown$Ways", TX9, 11, rfl, by decide, in_2 (List.mem_of_getElem? (i := 53) rfl), rfl⟩
theorem fo_Ways_18 : fldOk "BreathTown$Ways" 18 9 5 := ⟨"BreathTown$Ways", TX9, 11, rfl, by decide, in_2 (List.mem_of_getElem? (i := 54) rfl), rfl⟩
theorem fo_BT_214 : fldOk "BreathTown" 214 9 5 := ⟨"BreathTown$Ways", TX9, 11, rfl, by decide, in_2 (List.mem_of_getElem? (i := 55) rfl), rfl⟩
theorem fo_Ways_73 : fldOk "BreathTown$Ways" 73 9 6 := ⟨"BreathTown$Ways", TX9, 11, rfl, by decide, in_2 (List.mem_of_getElem? (i := 56) rfl), rfl⟩
theorem fo_BT_208 : fldOk "BreathTown" 208 9 6 := ⟨"BreathTown$Ways", TX9, 11, rfl, by decide, in_2 (List.mem_of_getElem? (i := 57) rfl), rfl⟩
theorem fo_Ways_21 : fldOk "BreathTown$Ways" 21 9 7 := ⟨"BreathTown$Ways", TX9, 11, rfl, by decide, in_2 (List.mem_of_getElem? (i := 58) rfl), rfl⟩
theorem fo_Ways_24 : fldOk "BreathTown$Ways" 24 9 8 := ⟨"BreathTown$Ways", TX9, 11, rfl, by decide, in_2 (List.mem_of_getElem? (i := 59) rfl), rfl⟩
theorem fo_Ways_27 : fldOk "BreathTown$Ways" 27 9 9 := ⟨"BreathTown$Ways", TX9, 11, rfl, by decide, in_2 (List.mem_of_getElem? (i := 60) rfl), rfl⟩
theorem fo_Ways_56 : fldOk "BreathTown$Ways" 56 9 10 := ⟨"BreathTown$Ways", TX9, 11, rfl, by decide, in_2 (List.mem_of_getElem? (i := 61) rfl), rfl⟩
theorem fo_Many_36 : fldOk "BreathTown$Many" 36 1 0 := ⟨"BreathTown$Many", TX1, 14, rfl, by decide, in_2 (List.mem_of_getElem? (i := 91) rfl), rfl⟩
theorem fo_Many_40 : fldOk "BreathTown$Many" 40 1 1 := ⟨"BreathTown$Many", TX1, 14, rfl, by decide, in_2 (List.mem_of_getElem? (i := 92) rfl), rfl⟩
theorem fo_Many_44 : fldOk "BreathTown$Many" 44 1 2 := ⟨"BreathTown$Many", TX1, 14, rfl, by decide, in_2 (List.mem_of_getElem? (i := 93) rfl), rfl⟩
theorem fo_Many_48 : fldOk "BreathTown$Many" 48 1 3 := ⟨"BreathTown$Many", TX1, 14, rfl, by decide, in_2 (List.mem_of_getElem? (i := 94) rfl), rfl⟩
theorem fo_Many_9 : fldOk "BreathTown$Many" 9 1 4 := ⟨"BreathTown$Many", TX1, 14, rfl, by decide, in_2 (List.mem_of_getElem? (i := 95) rfl), rfl⟩
theorem fo_BT_239 : fldOk "BreathTown" 239 1 4 := ⟨"BreathTown$Many", TX1, 14, rfl, by decide, in_2 (List.mem_of_getElem? (i := 96) rfl), rfl⟩
theorem fo_Many_15 : fldOk "BreathTown$Many" 15 1 5 := ⟨"BreathTown$Many", TX1, 14, rfl, by decide, in_2 (List.mem_of_getElem? (i := 97) rfl), rfl⟩
theorem fo_BT_242 : fldOk "BreathTown" 242 1 5 := ⟨"BreathTown$Many", TX1, 14, rfl, by decide, in_2 (List.mem_of_getElem? (i := 98) rfl), rfl⟩
theorem fo_Many_53 : fldOk "BreathTown$Many" 53 1 6 := ⟨"BreathTown$Many", TX1, 14, rfl, by decide, in_2 (List.mem_of_getElem? (i := 99) rfl), rfl⟩
theorem fo_BT_236 : fldOk "BreathTown" 236 1 6 := ⟨"BreathTown$Many", TX1, 14, rfl, by decide, in_2 (List.mem_of_getElem? (i := 100) rfl), rfl⟩
theorem fo_Many_57 : fldOk "BreathTown$Many" 57 1 7 := ⟨"BreathTown$Many", TX1, 14, rfl, by decide, in_2 (List.mem_of_getElem? (i := 101) rfl), rfl⟩
theorem fo_Many_18 : fldOk "BreathTown$Many" 18 1 8 := ⟨"BreathTown$Many", TX1, 14, rfl, by decide, in_2 (List.mem_of_getElem? (i := 102) rfl), rfl⟩
theorem fo_Many_21 : fldOk "BreathTown$Many" 21 1 9 := ⟨"BreathTown$Many", TX1, 14, rfl, by decide, in_2 (List.mem_of_getElem? (i := 103) rfl), rfl⟩
theorem fo_Many_24 : fldOk "BreathTown$Many" 24 1 10 := ⟨"BreathTown$Many", TX1, 14, rfl, by decide, in_2 (List.mem_of_getElem? (i := 104) rfl), rfl⟩
theorem fo_BT_248 : fldOk "BreathTown" 248 1 10 := ⟨"BreathTown$Many", TX1, 14, rfl, by decide, in_2 (List.mem_of_getElem? (i := 105) rfl), rfl⟩
theorem fo_Many_27 : fldOk "BreathTown$Many" 27 1 11 := ⟨"BreathTown$Many", TX1, 14, rfl, by decide, in_2 (List.mem_of_getElem? (i := 106) rfl), rfl⟩
theorem fo_Many_30 : fldOk "BreathTown$Many" 30 1 12 := ⟨"BreathTown$Many", TX1, 14, rfl, by decide, in_2 (List.mem_of_getElem? (i := 107) rfl), rfl⟩
theorem fo_Many_33 : fldOk "BreathTown$Many" 33 1 13 := ⟨"BreathTown$Many", TX1, 14, rfl, by decide, in_2 (List.mem_of_getElem? (i := 108) rfl), rfl⟩
theorem fo_Seen_27 : fldOk "BreathTown$Seen" 27 6 0 := ⟨"BreathTown$Seen", TX6, 9, rfl, by decide, in_2 (List.mem_of_getElem? (i := 144) rfl), rfl⟩
theorem fo_Seen_31 : fldOk "BreathTown$Seen" 31 6 1 := ⟨"BreathTown$Seen", TX6, 9, rfl, by decide, in_2 (List.mem_of_getElem? (i := 145) rfl), rfl⟩
theorem fo_Seen_35 : fldOk "BreathTown$Seen" 35 6 2 := ⟨"BreathTown$Seen", TX6, 9, rfl, by decide, in_2 (List.mem_of_getElem? (i := 146) rfl), rfl⟩
theorem fo_Seen_9 : fldOk "BreathTown$Seen" 9 6 3 := ⟨"BreathTown$Seen", TX6, 9, rfl, by decide, in_2 (List.mem_of_getElem? (i := 147) rfl), rfl⟩
theorem fo_Seen_15 : fldOk "BreathTown$Seen" 15 6 4 := ⟨"BreathTown$Seen", TX6, 9, rfl, by decide, in_2 (List.mem_of_getElem? (i := 148) rfl), rfl⟩
theorem fo_Seen_18 : fldOk "BreathTown$Seen" 18 6 5 := ⟨"BreathTown$Seen", TX6, 9, rfl, by decide, in_2 (List.mem_of_getElem? (i := 149) rfl), rfl⟩
theorem fo_Seen_59 : fldOk "BreathTown$Seen" 59 6 6 := ⟨"BreathTown$Seen", TX6, 9, rfl, by decide, in_2 (List.mem_of_getElem? (i := 150) rfl), rfl⟩
theorem fo_BT_129 : fldOk "BreathTown" 129 6 6 := ⟨"BreathTown$Seen", TX6, 9, rfl, by decide, in_2 (List.mem_of_getElem? (i := 151) rfl), rfl⟩
theorem fo_Seen_21 : fldOk "BreathTown$Seen" 21 6 7 := ⟨"BreathTown$Seen", TX6, 9, rfl, by decide, in_2 (List.mem_of_getElem? (i := 152) rfl), rfl⟩
theorem fo_BT_273 : fldOk "BreathTown" 273 6 7 := ⟨"BreathTown$Seen", TX6, 9, rfl, by decide, in_2 (List.mem_of_getElem? (i := 153) rfl), rfl⟩
theorem fo_Seen_24 : fldOk "BreathTown$Seen" 24 6 8 := ⟨"BreathTown$Seen", TX6, 9, rfl, by decide, in_2 (List.mem_of_getElem? (i := 154) rfl), rfl⟩
theorem fo_Quest_22 : fldOk "BreathTown$Question" 22 3 0 := ⟨"BreathTown$Question", TX3, 8, rfl, by decide, in_2 (List.mem_of_getElem? (i := 184) rfl), rfl⟩
theorem fo_Quest_26 : fldOk "BreathTown$Question" 26 3 1 := ⟨"BreathTown$Question", TX3, 8, rfl, by decide, in_2 (List.mem_of_getElem? (i := 185) rfl), rfl⟩
theorem fo_Quest_30 : fldOk "BreathTown$Question" 30 3 2 := ⟨"BreathTown$Question", TX3, 8, rfl, by decide, in_2 (List.mem_of_getElem? (i := 186) rfl), rfl⟩
theorem fo_Quest_34 : fldOk "BreathTown$Question" 34 3 3 := ⟨"BreathTown$Question", TX3, 8, rfl, by decide, in_2 (List.mem_of_getElem? (i := 187) rfl), rfl⟩
theorem fo_Quest_38 : fldOk "BreathTown$Question" 38 3 4 := ⟨"BreathTown$Question", TX3, 8, rfl, by decide, in_2 (List.mem_of_getElem? (i := 188) rfl), rfl⟩
theorem fo_Quest_12 : fldOk "BreathTown$Question" 12 3 5 := ⟨"BreathTown$Question", TX3, 8, rfl, by decide, in_2 (List.mem_of_getElem? (i := 189) rfl), rfl⟩
theorem fo_Quest_47 : fldOk "BreathTown$Question" 47 3 6 := ⟨"BreathTown$Question", TX3, 8, rfl, by decide, in_2 (List.mem_of_getElem? (i := 190) rfl), rfl⟩
theorem fo_Quest_18 : fldOk "BreathTown$Question" 18 3 7 := ⟨"BreathTown$Question", TX3, 8, rfl, by decide, in_2 (List.mem_of_getElem? (i := 191) rfl), rfl⟩
theorem fo_BT_10 : fldOk "BreathTown" 10 11 0 := ⟨"BreathTown", TX11, 14, rfl, by decide, in_2 (List.mem_of_getElem? (i := 209) rfl), rfl⟩
theorem fo_BT_19 : fldOk "BreathTown" 19 11 1 := ⟨"BreathTown", TX11, 14, rfl, by decide, in_2 (List.mem_of_getElem? (i := 210) rfl), rfl⟩
theorem fo_BT_23 : fldOk "BreathTown" 23 11 2 := ⟨"BreathTown", TX11, 14, rfl, by decide, in_2 (List.mem_of_getElem? (i := 211) rfl), rfl⟩
theorem fo_BT_31 : fldOk "BreathTown" 31 11 3 := ⟨"BreathTown", TX11, 14, rfl, by decide, in_2 (List.mem_of_getElem? (i := 212) rfl), rfl⟩
theorem fo_BT_40 : fldOk "BreathTown" 40 11 4 := ⟨"BreathTown", TX11, 14, rfl, by decide, in_2 (List.mem_of_getElem? (i := 213) rfl), rfl⟩
theorem fo_BT_49 : fldOk "BreathTown" 49 11 5 := ⟨"BreathTown", TX11, 14, rfl, by decide, in_2 (List.mem_of_getElem? (i := 214) rfl), rfl⟩
theorem fo_BT_58 : fldOk "BreathTown" 58 11 6 := ⟨"BreathTown", TX11, 14, rfl, by decide, in_2 (List.mem_of_getElem? (i := 215) rfl), rfl⟩
theorem fo_BT_67 : fldOk "BreathTown" 67 11 7 := ⟨"BreathTown", TX11, 14, rfl, by decide, in_2 (List.mem_of_getElem? (i := 216) rfl), rfl⟩
theorem fo_BT_74 : fldOk "BreathTown" 74 11 8 := ⟨"BreathTown", TX11, 14, rfl, by decide, in_2 (List.mem_of_getElem? (i := 217) rfl), rfl⟩
theorem fo_BT_83 : fldOk "BreathTown" 83 11 9 := ⟨"BreathTown", TX11, 14, rfl, by decide, in_2 (List.mem_of_getElem? (i := 218) rfl), rfl⟩
theorem fo_BT_87 : fldOk "BreathTown" 87 11 10 := ⟨"BreathTown", TX11, 14, rfl, by decide, in_2 (List.mem_of_getElem? (i := 219) rfl), rfl⟩
theorem fo_BT_91 : fldOk "BreathTown" 91 11 11 := ⟨"BreathTown", TX11, 14, rfl, by decide, in_2 (List.mem_of_getElem? (i := 220) rfl), rfl⟩
theorem fo_BT_95 : fldOk "BreathTown" 95 11 12 := ⟨"BreathTown", TX11, 14, rfl, by decide, in_2 (List.mem_of_getElem? (i := 221) rfl), rfl⟩
theorem fo_BT_98 : fldOk "BreathTown" 98 11 13 := ⟨"BreathTown", TX11, 14, rfl, by decide, in_2 (List.mem_of_getElem? (i := 222) rfl), rfl⟩
theorem cst_Widths_55 : Cond.constantLong "BreathTown$Widths" 55 (Int64.ofInt 127) ∈ lw_tbl := in_4 (List.mem_of_getElem? (i := 117) rfl)
theorem cst_Code_40 : Cond.constantLong "BreathTown$Code" 40 (Int64.ofInt 1000000) ∈ lw_tbl := in_4 (List.mem_of_getElem? (i := 128) rfl)
theorem cst_Code_42 : Cond.constantLong "BreathTown$Code" 42 (Int64.ofInt (-1000000)) ∈ lw_tbl := in_4 (List.mem_of_getElem? (i := 129) rfl)
theorem cst_BT_326 : Cond.constant "BreathTown" 326 (Int32.ofInt 99999) ∈ lw_tbl := in_4 (List.mem_of_getElem? (i := 144) rfl)
theorem cst_Ways_80 : Cond.constant "BreathTown$Ways" 80 (Int32.ofInt 1000000) ∈ lw_tbl := in_4 (List.mem_of_getElem? (i := 213) rfl)
theorem cst_Many_52 : Cond.constant "BreathTown$Many" 52 (Int32.ofInt 1000000) ∈ lw_tbl := in_5 (List.mem_of_getElem? (i := 50) rfl)
theorem cst_BT_318 : Cond.constantLong "BreathTown" 318 (Int64.ofInt 1103515245) ∈ lw_tbl := in_5 (List.mem_of_getElem? (i := 163) rfl)
theorem cst_BT_320 : Cond.constantLong "BreathTown" 320 (Int64.ofInt 12345) ∈ lw_tbl := in_5 (List.mem_of_getElem? (i := 164) rfl)
theorem cst_BT_322 : Cond.constantLong "BreathTown" 322 (Int64.ofInt 2147483647) ∈ lw_tbl := in_5 (List.mem_of_getElem? (i := 165) rfl)
theorem cst_BT_324 : Cond.constantLong "BreathTown" 324 (Int64.ofInt 64) ∈ lw_tbl := in_5 (List.mem_of_getElem? (i := 166) rfl)
theorem cst_Seen_81 : Cond.constant "BreathTown$Seen" 81 (Int32.ofInt 1000000) ∈ lw_tbl := in_5 (List.mem_of_getElem? (i := 213) rfl)
theorem cst_BT_280 : Cond.constantLong "BreathTown" 280 (Int64.ofInt (-1000000000000000)) ∈ lw_tbl := in_6 (List.mem_of_getElem? (i := 24) rfl)
theorem fo_M_7 : fldOk "BreathTownModel" 7 12 0 := ⟨"BreathTownModel", TX12, 100, rfl, by decide, in_6 (List.mem_of_getElem? (i := 108) rfl), rfl⟩
theorem fo_M_222 : fldOk "BreathTownModel" 222 12 1 := ⟨"BreathTownModel", TX12, 100, rfl, by decide, in_6 (List.mem_of_getElem? (i := 109) rfl), rfl⟩
theorem fo_M_231 : fldOk "BreathTownModel" 231 12 2 := ⟨"BreathTownModel", TX12, 100, rfl, by decide, in_6 (List.mem_of_getElem? (i := 110) rfl), rfl⟩
theorem fo_M_234 : fldOk "BreathTownModel" 234 12 3 := ⟨"BreathTownModel", TX12, 100, rfl, by decide, in_6 (List.mem_of_getElem? (i := 111) rfl), rfl⟩
theorem fo_M_245 : fldOk "BreathTownModel" 245 12 4 := ⟨"BreathTownModel", TX12, 100, rfl, by decide, in_6 (List.mem_of_getElem? (i := 112) rfl), rfl⟩
theorem fo_M_225 : fldOk "BreathTownModel" 225 12 5 := ⟨"BreathTownModel", TX12, 100, rfl, by decide, in_6 (List.mem_of_getElem? (i := 113) rfl), rfl⟩
theorem fo_M_228 : fldOk "BreathTownModel" 228 12 6 := ⟨"BreathTownModel", TX12, 100, rfl, by decide, in_6 (List.mem_of_getElem? (i := 114) rfl), rfl⟩
theorem fo_M_344 : fldOk "BreathTownModel" 344 12 7 := ⟨"BreathTownModel", TX12, 100, rfl, by decide, in_6 (List.mem_of_getElem? (i := 115) rfl), rfl⟩
theorem fo_M_13 : fldOk "BreathTownModel" 13 12 8 := ⟨"BreathTownModel", TX12, 100, rfl, by decide, in_6 (List.mem_of_getElem? (i := 116) rfl), rfl⟩
theorem fo_M_17 : fldOk "BreathTownModel" 17 12 9 := ⟨"BreathTownModel", TX12, 100, rfl, by decide, in_6 (List.mem_of_getElem? (i := 117) rfl), rfl⟩
theorem fo_M_20 : fldOk "BreathTownModel" 20 12 10 := ⟨"BreathTownModel", TX12, 100, rfl, by decide, in_6 (List.mem_of_getElem? (i := 118) rfl), rfl⟩
theorem fo_M_24 : fldOk "BreathTownModel" 24 12 11 := ⟨"BreathTownModel", TX12, 100, rfl, by decide, in_6 (List.mem_of_getElem? (i := 119) rfl), rfl⟩
theorem fo_M_27 : fldOk "BreathTownModel" 27 12 12 := ⟨"BreathTownModel", TX12, 100, rfl, by decide, in_6 (List.mem_of_getElem? (i := 120) rfl), rfl⟩
theorem fo_M_30 : fldOk "BreathTownModel" 30 12 13 := ⟨"BreathTownModel", TX12, 100, rfl, by decide, in_6 (List.mem_of_getElem? (i := 121) rfl), rfl⟩
theorem fo_M_33 : fldOk "BreathTownModel" 33 12 14 := ⟨"BreathTownModel", TX12, 100, rfl, by decide, in_6 (List.mem_of_getElem? (i := 122) rfl), rfl⟩
theorem fo_M_36 : fldOk "BreathTownModel" 36 12 15 := ⟨"BreathTownModel", TX12, 100, rfl, by decide, in_6 (List.mem_of_getElem? (i := 123) rfl), rfl⟩
theorem fo_M_39 : fldOk "BreathTownModel" 39 12 16 := ⟨"BreathTownModel", TX12, 100, rfl, by decide, in_6 (List.mem_of_getElem? (i := 124) rfl), rfl⟩
theorem fo_M_42 : fldOk "BreathTownModel" 42 12 17 := ⟨"BreathTownModel", TX12, 100, rfl, by decide, in_6 (List.mem_of_getElem? (i := 125) rfl), rfl⟩
theorem fo_M_45 : fldOk "BreathTownModel" 45 12 18 := ⟨"BreathTownModel", TX12, 100, rfl, by decide, in_6 (List.mem_of_getElem? (i := 126) rfl), rfl⟩
theorem fo_M_48 : fldOk "BreathTownModel" 48 12 19 := ⟨"BreathTownModel", TX12, 100, rfl, by decide, in_6 (List.mem_of_getElem? (i := 127) rfl), rfl⟩
theorem fo_M_51 : fldOk "BreathTownModel" 51 12 20 := ⟨"BreathTownModel", TX12, 100, rfl, by decide, in_6 (List.mem_of_getElem? (i := 128) rfl), rfl⟩
theorem fo_M_54 : fldOk "BreathTownModel" 54 12 21 := ⟨"BreathTownModel", TX12, 100, rfl, by decide, in_6 (List.mem_of_getElem? (i := 129) rfl), rfl⟩
theorem fo_M_57 : fldOk "BreathTownModel" 57 12 22 := ⟨"BreathTownModel", TX12, 100, rfl, by decide, in_6 (List.mem_of_getElem? (i := 130) rfl), rfl⟩
theorem fo_M_60 : fldOk "BreathTownModel" 60 12 23 := ⟨"BreathTownModel", TX12, 100, rfl, by decide, in_6 (List.mem_of_getElem? (i := 131) rfl), rfl⟩
theorem fo_M_63 : fldOk "BreathTownModel" 63 12 24 := ⟨"BreathTownModel", TX12, 100, rfl, by decide, in_6 (List.mem_of_getElem? (i := 132) rfl), rfl⟩
theorem fo_M_66 : fldOk "BreathTownModel" 66 12 25 := ⟨"BreathTownModel", TX12, 100, rfl, by decide, in_6 (List.mem_of_getElem? (i := 133) rfl), rfl⟩
theorem fo_M_69 : fldOk "BreathTownModel" 69 12 26 := ⟨"BreathTownModel", TX12, 100, rfl, by decide, in_6 (List.mem_of_getElem? (i := 134) rfl), rfl⟩
theorem fo_M_273 : fldOk "BreathTownModel" 273 12 27 := ⟨"BreathTownModel", TX12, 100, rfl, by decide, in_6 (List.mem_of_getElem? (i := 135) rfl), rfl⟩
theorem fo_M_72 : fldOk "BreathTownModel" 72 12 28 := ⟨"BreathTownModel", TX12, 100, rfl, by decide, in_6 (List.mem_of_getElem? (i := 136) rfl), rfl⟩
theorem fo_M_75 : fldOk "BreathTownModel" 75 12 29 := ⟨"BreathTownModel", TX12, 100, rfl, by decide, in_6 (List.mem_of_getElem? (i := 137) rfl), rfl⟩
theorem fo_M_79 : fldOk "BreathTownModel" 79 12 30 := ⟨"BreathTownModel", TX12, 100, rfl, by decide, in_6 (List.mem_of_getElem? (i := 138) rfl), rfl⟩
theorem fo_M_82 : fldOk "BreathTownModel" 82 12 31 := ⟨"BreathTownModel", TX12, 100, rfl, by decide, in_6 (List.mem_of_getElem? (i := 139) rfl), rfl⟩
theorem fo_M_335 : fldOk "BreathTownModel" 335 12 32 := ⟨"BreathTownModel", TX12, 100, rfl, by decide, in_6 (List.mem_of_getElem? (i := 140) rfl), rfl⟩
theorem fo_M_322 : fldOk "BreathTownModel" 322 12 33 := ⟨"BreathTownModel", TX12, 100, rfl, by decide, in_6 (List.mem_of_getElem? (i := 141) rfl), rfl⟩
theorem fo_M_85 : fldOk "BreathTownModel" 85 12 34 := ⟨"BreathTownModel", TX12, 100, rfl, by decide, in_6 (List.mem_of_getElem? (i := 142) rfl), rfl⟩
theorem fo_M_307 : fldOk "BreathTownModel" 307 12 35 := ⟨"BreathTownModel", TX12, 100, rfl, by decide, in_6 (List.mem_of_getElem? (i := 143) rfl), rfl⟩
theorem fo_M_88 : fldOk "BreathTownModel" 88 12 36 := ⟨"BreathTownModel", TX12, 100, rfl, by decide, in_6 (List.mem_of_getElem? (i := 144) rfl), rfl⟩
theorem fo_M_310 : fldOk "BreathTownModel" 310 12 37 := ⟨"BreathTownModel", TX12, 100, rfl, by decide, in_6 (List.mem_of_getElem? (i := 145) rfl), rfl⟩
theorem fo_M_313 : fldOk "BreathTownModel" 313 12 38 := ⟨"BreathTownModel", TX12, 100, rfl, by decide, in_6 (List.mem_of_getElem? (i := 146) rfl), rfl⟩
theorem fo_M_91 : fldOk "BreathTownModel" 91 12 39 := ⟨"BreathTownModel", TX12, 100, rfl, by decide, in_6 (List.mem_of_getElem? (i := 147) rfl), rfl⟩
theorem fo_M_94 : fldOk "BreathTownModel" 94 12 40 := ⟨"BreathTownModel", TX12, 100, rfl, by decide, in_6 (List.mem_of_getElem? (i := 148) rfl), rfl⟩
theorem fo_M_316 : fldOk "BreathTownModel" 316 12 41 := ⟨"BreathTownModel", TX12, 100, rfl, by decide, in_6 (List.mem_of_getElem? (i := 149) rfl), rfl⟩
theorem fo_M_97 : fldOk "BreathTownModel" 97 12 42 := ⟨"BreathTownModel", TX12, 100, rfl, by decide, in_6 (List.mem_of_getElem? (i := 150) rfl), rfl⟩
theorem fo_M_387 : fldOk "BreathTownModel" 387 12 43 := ⟨"BreathTownModel", TX12, 100, rfl, by decide, in_6 (List.mem_of_getElem? (i := 151) rfl), rfl⟩
theorem fo_M_100 : fldOk "BreathTownModel" 100 12 44 := ⟨"BreathTownModel", TX12, 100, rfl, by decide, in_6 (List.mem_of_getElem? (i := 152) rfl), rfl⟩
theorem fo_M_103 : fldOk "BreathTownModel" 103 12 45 := ⟨"BreathTownModel", TX12, 100, rfl, by decide, in_6 (List.mem_of_getElem? (i := 153) rfl), rfl⟩
theorem fo_M_106 : fldOk "BreathTownModel" 106 12 46 := ⟨"BreathTownModel", TX12, 100, rfl, by decide, in_6 (List.mem_of_getElem? (i := 154) rfl), rfl⟩
theorem fo_M_447 : fldOk "BreathTownModel" 447 12 47 := ⟨"BreathTownModel", TX12, 100, rfl, by decide, in_6 (List.mem_of_getElem? (i := 155) rfl), rfl⟩
theorem fo_M_109 : fldOk "BreathTownModel" 109 12 48 := ⟨"BreathTownModel", TX12, 100, rfl, by decide, in_6 (List.mem_of_getElem? (i := 156) rfl), rfl⟩
theorem fo_M_112 : fldOk "BreathTownModel" 112 12 49 := ⟨"BreathTownModel", TX12, 100, rfl, by decide, in_6 (List.mem_of_getElem? (i := 157) rfl), rfl⟩
theorem fo_M_115 : fldOk "BreathTownModel" 115 12 50 := ⟨"BreathTownModel", TX12, 100, rfl, by decide, in_6 (List.mem_of_getElem? (i := 158) rfl), rfl⟩
theorem fo_M_490 : fldOk "BreathTownModel" 490 12 51 := ⟨"BreathTownModel", TX12, 100, rfl, by decide, in_6 (List.mem_of_getElem? (i := 159) rfl), rfl⟩
theorem fo_M_118 : fldOk "BreathTownModel" 118 12 52 := ⟨"BreathTownModel", TX12, 100, rfl, by decide, in_6 (List.mem_of_getElem? (i := 160) rfl), rfl⟩
theorem fo_M_121 : fldOk "BreathTownModel" 121 12 53 := ⟨"BreathTownModel", TX12, 100, rfl, by decide, in_6 (List.mem_of_getElem? (i := 161) rfl), rfl⟩
theorem fo_M_124 : fldOk "BreathTownModel" 124 12 54 := ⟨"BreathTownModel", TX12, 100, rfl, by decide, in_6 (List.mem_of_getElem? (i := 162) rfl), rfl⟩
theorem fo_M_127 : fldOk "BreathTownModel" 127 12 55 := ⟨"BreathTownModel", TX12, 100, rfl, by decide, in_6 (List.mem_of_getElem? (i := 163) rfl), rfl⟩
theorem fo_M_130 : fldOk "BreathTownModel" 130 12 56 := ⟨"BreathTownModel", TX12, 100, rfl, by decide, in_6 (List.mem_of_getElem? (i := 164) rfl), rfl⟩
theorem fo_M_544 : fldOk "BreathTownModel" 544 12 57 := ⟨"BreathTownModel", TX12, 100, rfl, by decide, in_6 (List.mem_of_getElem? (i := 165) rfl), rfl⟩
theorem fo_M_547 : fldOk "BreathTownModel" 547 12 58 := ⟨"BreathTownModel", TX12, 100, rfl, by decide, in_6 (List.mem_of_getElem? (i := 166) rfl), rfl⟩
theorem fo_M_133 : fldOk "BreathTownModel" 133 12 59 := ⟨"BreathTownModel", TX12, 100, rfl, by decide, in_6 (List.mem_of_getElem? (i := 167) rfl), rfl⟩
theorem fo_M_567 : fldOk "BreathTownModel" 567 12 60 := ⟨"BreathTownModel", TX12, 100, rfl, by decide, in_6 (List.mem_of_getElem? (i := 168) rfl), rfl⟩
theorem fo_M_136 : fldOk "BreathTownModel" 136 12 61 := ⟨"BreathTownModel", TX12, 100, rfl, by decide, in_6 (List.mem_of_getElem? (i := 169) rfl), rfl⟩
theorem fo_M_139 : fldOk "BreathTownModel" 139 12 62 := ⟨"BreathTownModel", TX12, 100, rfl, by decide, in_6 (List.mem_of_getElem? (i := 170) rfl), rfl⟩
theorem fo_M_350 : fldOk "BreathTownModel" 350 12 63 := ⟨"BreathTownModel", TX12, 100, rfl, by decide, in_6 (List.mem_of_getElem? (i := 171) rfl), rfl⟩
theorem fo_M_581 : fldOk "BreathTownModel" 581 12 64 := ⟨"BreathTownModel", TX12, 100, rfl, by decide, in_6 (List.mem_of_getElem? (i := 172) rfl), rfl⟩
theorem fo_M_142 : fldOk "BreathTownModel" 142 12 65 := ⟨"BreathTownModel", TX12, 100, rfl, by decide, in_6 (List.mem_of_getElem? (i := 173) rfl), rfl⟩
theorem fo_M_353 : fldOk "BreathTownModel" 353 12 66 := ⟨"BreathTownModel", TX12, 100, rfl, by decide, in_6 (List.mem_of_getElem? (i := 174) rfl), rfl⟩
theorem fo_M_146 : fldOk "BreathTownModel" 146 12 67 := ⟨"BreathTownModel", TX12, 100, rfl, by decide, in_6 (List.mem_of_getElem? (i := 175) rfl), rfl⟩
theorem fo_M_149 : fldOk "BreathTownModel" 149 12 68 := ⟨"BreathTownModel", TX12, 100, rfl, by decide, in_6 (List.mem_of_getElem? (i := 176) rfl), rfl⟩
theorem fo_M_153 : fldOk "BreathTownModel" 153 12 69 := ⟨"BreathTownModel", TX12, 100, rfl, by decide, in_6 (List.mem_of_getElem? (i := 177) rfl), rfl⟩
theorem fo_M_156 : fldOk "BreathTownModel" 156 12 70 := ⟨"BreathTownModel", TX12, 100, rfl, by decide, in_6 (List.mem_of_getElem? (i := 178) rfl), rfl⟩
theorem fo_M_159 : fldOk "BreathTownModel" 159 12 71 := ⟨"BreathTownModel", TX12, 100, rfl, by decide, in_6 (List.mem_of_getElem? (i := 179) rfl), rfl⟩
theorem fo_M_162 : fldOk "BreathTownModel" 162 12 72 := ⟨"BreathTownModel", TX12, 100, rfl, by decide, in_6 (List.mem_of_getElem? (i := 180) rfl), rfl⟩
theorem fo_M_165 : fldOk "BreathTownModel" 165 12 73 := ⟨"BreathTownModel", TX12, 100, rfl, by decide, in_6 (List.mem_of_getElem? (i := 181) rfl), rfl⟩
theorem fo_M_168 : fldOk "BreathTownModel" 168 12 74 := ⟨"BreathTownModel", TX12, 100, rfl, by decide, in_6 (List.mem_of_getElem? (i := 182) rfl), rfl⟩
theorem fo_M_171 : fldOk "BreathTownModel" 171 12 75 := ⟨"BreathTownModel", TX12, 100, rfl, by decide, in_6 (List.mem_of_getElem? (i := 183) rfl), rfl⟩
theorem fo_M_174 : fldOk "BreathTownModel" 174 12 76 := ⟨"BreathTownModel", TX12, 100, rfl, by decide, in_6 (List.mem_of_getElem? (i := 184) rfl), rfl⟩
theorem fo_M_177 : fldOk "BreathTownModel" 177 12 77 := ⟨"BreathTownModel", TX12, 100, rfl, by decide, in_6 (List.mem_of_getElem? (i := 185) rfl), rfl⟩
theorem fo_M_180 : fldOk "BreathTownModel" 180 12 78 := ⟨"BreathTownModel", TX12, 100, rfl, by decide, in_6 (List.mem_of_getElem? (i := 186) rfl), rfl⟩
theorem fo_M_183 : fldOk "BreathTownModel" 183 12 79 := ⟨"BreathTownModel", TX12, 100, rfl, by decide, in_6 (List.mem_of_getElem? (i := 187) rfl), rfl⟩
theorem fo_M_186 : fldOk "BreathTownModel" 186 12 80 := ⟨"BreathTownModel", TX12, 100, rfl, by decide, in_6 (List.mem_of_getElem? (i := 188) rfl), rfl⟩
theorem fo_M_189 : fldOk "BreathTownModel" 189 12 81 := ⟨"BreathTownModel", TX12, 100, rfl, by decide, in_6 (List.mem_of_getElem? (i := 189) rfl), rfl⟩
theorem fo_M_192 : fldOk "BreathTownModel" 192 12 82 := ⟨"BreathTownModel", TX12, 100, rfl, by decide, in_6 (List.mem_of_getElem? (i := 190) rfl), rfl⟩
theorem fo_M_195 : fldOk "BreathTownModel" 195 12 83 := ⟨"BreathTownModel", TX12, 100, rfl, by decide, in_6 (List.mem_of_getElem? (i := 191) rfl), rfl⟩
theorem fo_M_198 : fldOk "BreathTownModel" 198 12 84 := ⟨"BreathTownModel", TX12, 100, rfl, by decide, in_6 (List.mem_of_getElem? (i := 192) rfl), rfl⟩
theorem fo_M_201 : fldOk "BreathTownModel" 201 12 85 := ⟨"BreathTownModel", TX12, 100, rfl, by decide, in_6 (List.mem_of_getElem? (i := 193) rfl), rfl⟩
theorem fo_M_204 : fldOk "BreathTownModel" 204 12 86 := ⟨"BreathTownModel", TX12, 100, rfl, by decide, in_6 (List.mem_of_getElem? (i := 194) rfl), rfl⟩
theorem fo_M_207 : fldOk "BreathTownModel" 207 12 87 := ⟨"BreathTownModel", TX12, 100, rfl, by decide, in_6 (List.mem_of_getElem? (i := 195) rfl), rfl⟩
theorem fo_M_210 : fldOk "BreathTownModel" 210 12 88 := ⟨"BreathTownModel", TX12, 100, rfl, by decide, in_6 (List.mem_of_getElem? (i := 196) rfl), rfl⟩
theorem fo_M_614 : fldOk "BreathTownModel" 614 12 89 := ⟨"BreathTownModel", TX12, 100, rfl, by decide, in_6 (List.mem_of_getElem? (i := 197) rfl), rfl⟩
theorem fo_M_213 : fldOk "BreathTownModel" 213 12 90 := ⟨"BreathTownModel", TX12, 100, rfl, by decide, in_6 (List.mem_of_getElem? (i := 198) rfl), rfl⟩
theorem fo_M_620 : fldOk "BreathTownModel" 620 12 91 := ⟨"BreathTownModel", TX12, 100, rfl, by decide, in_6 (List.mem_of_getElem? (i := 199) rfl), rfl⟩
theorem fo_M_617 : fldOk "BreathTownModel" 617 12 92 := ⟨"BreathTownModel", TX12, 100, rfl, by decide, in_6 (List.mem_of_getElem? (i := 200) rfl), rfl⟩
theorem fo_M_626 : fldOk "BreathTownModel" 626 12 93 := ⟨"BreathTownModel", TX12, 100, rfl, by decide, in_6 (List.mem_of_getElem? (i := 201) rfl), rfl⟩
theorem fo_M_216 : fldOk "BreathTownModel" 216 12 94 := ⟨"BreathTownModel", TX12, 100, rfl, by decide, in_6 (List.mem_of_getElem? (i := 202) rfl), rfl⟩
theorem fo_M_680 : fldOk "BreathTownModel" 680 12 95 := ⟨"BreathTownModel", TX12, 100, rfl, by decide, in_6 (List.mem_of_getElem? (i := 203) rfl), rfl⟩
theorem fo_M_705 : fldOk "BreathTownModel" 705 12 96 := ⟨"BreathTownModel", TX12, 100, rfl, by decide, in_6 (List.mem_of_getElem? (i := 204) rfl), rfl⟩
theorem fo_M_708 : fldOk "BreathTownModel" 708 12 97 := ⟨"BreathTownModel", TX12, 100, rfl, by decide, in_6 (List.mem_of_getElem? (i := 205) rfl), rfl⟩
theorem fo_M_219 : fldOk "BreathTownModel" 219 12 98 := ⟨"BreathTownModel", TX12, 100, rfl, by decide, in_6 (List.mem_of_getElem? (i := 206) rfl), rfl⟩
theorem fo_M_728 : fldOk "BreathTownModel" 728 12 99 := ⟨"BreathTownModel", TX12, 100, rfl, by decide, in_6 (List.mem_of_getElem? (i := 207) rfl), rfl⟩
theorem cst_M_276 : Cond.constantLong "BreathTownModel" 276 (Int64.ofInt 27) ∈ lw_tbl := in_7 (List.mem_of_getElem? (i := 226) rfl)
theorem cst_M_278 : Cond.constantLong "BreathTownModel" 278 (Int64.ofInt 97) ∈ lw_tbl := in_7 (List.mem_of_getElem? (i := 227) rfl)
theorem cst_M_505 : Cond.constantLong "BreathTownModel" 505 (Int64.ofInt 2) ∈ lw_tbl := in_8 (List.mem_of_getElem? (i := 98) rfl)
theorem cst_M_507 : Cond.constantLong "BreathTownModel" 507 (Int64.ofInt 5) ∈ lw_tbl := in_8 (List.mem_of_getElem? (i := 99) rfl)
theorem cst_M_402 : Cond.constantLong "BreathTownModel" 402 (Int64.ofInt 7) ∈ lw_tbl := in_8 (List.mem_of_getElem? (i := 140) rfl)
theorem cst_M_404 : Cond.constantLong "BreathTownModel" 404 (Int64.ofInt 10) ∈ lw_tbl := in_8 (List.mem_of_getElem? (i := 141) rfl)
theorem cst_M_383 : Cond.constantLong "BreathTownModel" 383 (Int64.ofInt 1000000) ∈ lw_tbl := in_8 (List.mem_of_getElem? (i := 149) rfl)
theorem cst_M_385 : Cond.constantLong "BreathTownModel" 385 (Int64.ofInt (-1000000)) ∈ lw_tbl := in_8 (List.mem_of_getElem? (i := 150) rfl)
theorem cst_M_429 : Cond.constantLong "BreathTownModel" 429 (Int64.ofInt 99) ∈ lw_tbl := in_8 (List.mem_of_getElem? (i := 154) rfl)
theorem cst_M_515 : Cond.constantLong "BreathTownModel" 515 (Int64.ofInt 99999) ∈ lw_tbl := in_8 (List.mem_of_getElem? (i := 182) rfl)
theorem cst_M_520 : Cond.constantLong "BreathTownModel" 520 (Int64.ofInt 1000) ∈ lw_tbl := in_8 (List.mem_of_getElem? (i := 207) rfl)
theorem cst_M_459 : Cond.constant "BreathTownModel" 459 (Int32.ofInt 1000000) ∈ lw_tbl := in_9 (List.mem_of_getElem? (i := 0) rfl)
theorem cst_M_528 : Cond.constantLong "BreathTownModel" 528 (Int64.ofInt 100) ∈ lw_tbl := in_9 (List.mem_of_getElem? (i := 25) rfl)
theorem cst_M_539 : Cond.constantLong "BreathTownModel" 539 (Int64.ofInt 48) ∈ lw_tbl := in_9 (List.mem_of_getElem? (i := 54) rfl)
theorem cst_M_550 : Cond.constantLong "BreathTownModel" 550 (Int64.ofInt 4) ∈ lw_tbl := in_9 (List.mem_of_getElem? (i := 63) rfl)
theorem cst_M_552 : Cond.constantLong "BreathTownModel" 552 (Int64.ofInt (-1)) ∈ lw_tbl := in_9 (List.mem_of_getElem? (i := 64) rfl)
theorem cst_M_573 : Cond.constantLong "BreathTownModel" 573 (Int64.ofInt 400) ∈ lw_tbl := in_9 (List.mem_of_getElem? (i := 81) rfl)
theorem cst_M_584 : Cond.constantLong "BreathTownModel" 584 (Int64.ofInt 500) ∈ lw_tbl := in_9 (List.mem_of_getElem? (i := 106) rfl)
theorem cst_M_600 : Cond.constantLong "BreathTownModel" 600 (Int64.ofInt 30) ∈ lw_tbl := in_9 (List.mem_of_getElem? (i := 131) rfl)
theorem cst_M_592 : Cond.constantLong "BreathTownModel" 592 (Int64.ofInt 1103515245) ∈ lw_tbl := in_9 (List.mem_of_getElem? (i := 136) rfl)
theorem cst_M_594 : Cond.constantLong "BreathTownModel" 594 (Int64.ofInt 12345) ∈ lw_tbl := in_9 (List.mem_of_getElem? (i := 137) rfl)
theorem cst_M_596 : Cond.constantLong "BreathTownModel" 596 (Int64.ofInt 2147483648) ∈ lw_tbl := in_9 (List.mem_of_getElem? (i := 138) rfl)
theorem cst_M_598 : Cond.constantLong "BreathTownModel" 598 (Int64.ofInt 64) ∈ lw_tbl := in_9 (List.mem_of_getElem? (i := 139) rfl)
theorem cst_M_718 : Cond.constantLong "BreathTownModel" 718 (Int64.ofInt (-1000000000000000)) ∈ lw_tbl := in_10 (List.mem_of_getElem? (i := 7) rfl)
theorem po_0_3 : putOk 0 3 0 := fun C T N h => by cases h; exact ⟨rfl, by decide +kernel⟩
theorem po_0_4 : putOk 0 4 0 := fun C T N h => by cases h; exact ⟨rfl, by decide +kernel⟩
theorem po_1_6 : putOk 1 6 0 := fun C T N h => by cases h; exact ⟨rfl, by decide +kernel⟩
theorem po_1_7 : putOk 1 7 0 := fun C T N h => by cases h; exact ⟨rfl, by decide +kernel⟩
theorem po_2_7 : putOk 2 7 0 := fun C T N h => by cases h; exact ⟨rfl, by decide +kernel⟩
theorem po_2_8 : putOk 2 8 0 := fun C T N h => by cases h; exact ⟨rfl, by decide +kernel⟩
theorem po_2_9 : putOk 2 9 0 := fun C T N h => by cases h; exact ⟨rfl, by decide +kernel⟩
theorem po_5_1 : putOk 5 1 0 := fun C T N h => by cases h; exact ⟨rfl, by decide +kernel⟩
theorem po_5_2 : putOk 5 2 0 := fun C T N h => by cases h; exact ⟨rfl, by decide +kernel⟩
theorem po_5_3 : putOk 5 3 0 := fun C T N h => by cases h; exact ⟨rfl, by decide +kernel⟩
theorem po_5_4 : putOk 5 4 0 := fun C T N h => by cases h; exact ⟨rfl, by decide +kernel⟩
theorem po_5_5 : putOk 5 5 0 := fun C T N h => by cases h; exact ⟨rfl, by decide +kernel⟩
theorem po_5_6 : putOk 5 6 0 := fun C T N h => by cases h; exact ⟨rfl, by decide +kernel⟩
theorem po_6_6 : putOk 6 6 0 := fun C T N h => by cases h; exact ⟨rfl, by decide +kernel⟩
theorem po_7_13 : putOk 7 13 0 := fun C T N h => by cases h; exact ⟨rfl, by decide +kernel⟩
theorem po_9_6 : putOk 9 6 0 := fun C T N h => by cases h; exact ⟨rfl, by decide +kernel⟩
theorem po_9_10 : putOk 9 10 0 := fun C T N h => by cases h; exact ⟨rfl, by decide +kernel⟩
theorem po_10_3 : putOk 10 3 1 := fun C T N h => by cases h; exact ⟨rfl, by decide +kernel⟩
theorem po_11_11 : putOk 11 11 0 := fun C T N h => by cases h; exact ⟨rfl, by decide +kernel⟩
theorem po_11_12 : putOk 11 12 0 := fun C T N h => by cases h; exact ⟨rfl, by decide +kernel⟩
theorem po_11_13 : putOk 11 13 1 := fun C T N h => by cases h; exact ⟨rfl, by decide +kernel⟩
theorem po_12_1 : putOk 12 1 0 := fun C T N h => by cases h; exact ⟨rfl, by decide +kernel⟩
theorem po_12_2 : putOk 12 2 0 := fun C T N h => by cases h; exact ⟨rfl, by decide +kernel⟩
theorem po_12_3 : putOk 12 3 0 := fun C T N h => by cases h; exact ⟨rfl, by decide +kernel⟩
theorem po_12_4 : putOk 12 4 0 := fun C T N h => by cases h; exact ⟨rfl, by decide +kernel⟩
theorem po_12_5 : putOk 12 5 0 := fun C T N h => by cases h; exact ⟨rfl, by decide +kernel⟩
theorem po_12_6 : putOk 12 6 0 := fun C T N h => by cases h; exact ⟨rfl, by decide +kernel⟩
theorem po_12_7 : putOk 12 7 0 := fun C T N h => by cases h; exact ⟨rfl, by decide +kernel⟩
theorem po_12_8 : putOk 12 8 0 := fun C T N h => by cases h; exact ⟨rfl, by decide +kernel⟩
theorem po_12_27 : putOk 12 27 0 := fun C T N h => by cases h; exact ⟨rfl, by decide +kernel⟩
theorem po_12_32 : putOk 12 32 0 := fun C T N h => by cases h; exact ⟨rfl, by decide +kernel⟩
theorem po_12_33 : putOk 12 33 0 := fun C T N h => by cases h; exact ⟨rfl, by decide +kernel⟩
theorem po_12_35 : putOk 12 35 0 := fun C T N h => by cases h; exact ⟨rfl, by decide +kernel⟩
theorem po_12_37 : putOk 12 37 0 := fun C T N h => by cases h; exact ⟨rfl, by decide +kernel⟩
theorem po_12_38 : putOk 12 38 0 := fun C T N h => by cases h; exact ⟨rfl, by decide +kernel⟩
theorem po_12_41 : putOk 12 41 0 := fun C T N h => by cases h; exact ⟨rfl, by decide +kernel⟩
theorem po_12_43 : putOk 12 43 0 := fun C T N h => by cases h; exact ⟨rfl, by decide +kernel⟩
theorem po_12_47 : putOk 12 47 0 := fun C T N h => by cases h; exact ⟨rfl, by decide +kernel⟩
theorem po_12_51 : putOk 12 51 0 := fun C T N h => by cases h; exact ⟨rfl, by decide +kernel⟩
theorem po_12_57 : putOk 12 57 0 := fun C T N h => by cases h; exact ⟨rfl, by decide +kernel⟩
theorem po_12_58 : putOk 12 58 0 := fun C T N h => by cases h; exact ⟨rfl, by decide +kernel⟩
theorem po_12_60 : putOk 12 60 0 := fun C T N h => by cases h; exact ⟨rfl, by decide +kernel⟩
theorem po_12_63 : putOk 12 63 0 := fun C T N h => by cases h; exact ⟨rfl, by decide +kernel⟩
theorem po_12_64 : putOk 12 64 0 := fun C T N h => by cases h; exact ⟨rfl, by decide +kernel⟩
theorem po_12_65 : putOk 12 65 1 := fun C T N h => by cases h; exact ⟨rfl, by decide +kernel⟩
theorem po_12_66 : putOk 12 66 0 := fun C T N h => by cases h; exact ⟨rfl, by decide +kernel⟩
theorem po_12_89 : putOk 12 89 0 := fun C T N h => by cases h; exact ⟨rfl, by decide +kernel⟩
theorem po_12_91 : putOk 12 91 0 := fun C T N h => by cases h; exact ⟨rfl, by decide +kernel⟩
theorem po_12_92 : putOk 12 92 0 := fun C T N h => by cases h; exact ⟨rfl, by decide +kernel⟩
theorem po_12_93 : putOk 12 93 0 := fun C T N h => by cases h; exact ⟨rfl, by decide +kernel⟩
theorem po_12_95 : putOk 12 95 0 := fun C T N h => by cases h; exact ⟨rfl, by decide +kernel⟩
theorem po_12_96 : putOk 12 96 1 := fun C T N h => by cases h; exact ⟨rfl, by decide +kernel⟩
theorem po_12_97 : putOk 12 97 3 := fun C T N h => by cases h; exact ⟨rfl, by decide +kernel⟩
theorem po_12_99 : putOk 12 99 0 := fun C T N h => by cases h; exact ⟨rfl, by decide +kernel⟩
theorem lw_pv {i : Nat} {w : Cond} (h : (k2_sels lw_privs)[i]? = some w) : w ∈ lw_tbl := List.mem_append_left _ (List.mem_of_getElem? h)
def y_M_status : MethodName := ⟨"BreathTownModel", "status", "(I)I"⟩
theorem mk_M_status : mOk y_M_status prog_14_method_152_code 2 (Option.some Jvm.ClassFile.FieldType.int) 1 false := ⟨in_10 (List.mem_of_getElem? (i := 68) rfl), in_1 (List.mem_of_getElem? (i := 13) rfl), ⟨by decide +kernel, by decide +kernel, by decide +kernel⟩, by decide +kernel, by decide, ⟨in_10 (List.mem_of_getElem? (i := 66) rfl), in_10 (List.mem_of_getElem? (i := 67) rfl)⟩⟩
def y_M_isIn : MethodName := ⟨"BreathTownModel", "isIn", "(JJJ)Z"⟩
theorem mk_M_isIn : mOk y_M_isIn prog_14_method_2_code 6 (Option.some Jvm.ClassFile.FieldType.boolean) 3 true := ⟨in_8 (List.mem_of_getElem? (i := 13) rfl), in_1 (List.mem_of_getElem? (i := 13) rfl), ⟨by decide +kernel, by decide +kernel, by decide +kernel⟩, by decide +kernel, by decide, in_8 (List.mem_of_getElem? (i := 12) rfl)⟩
def y_BT_status : MethodName := ⟨"BreathTown", "status", "(I)I"⟩
theorem mk_BT_status : mOk y_BT_status prog_1_method_35_code 2 (Option.some Jvm.ClassFile.FieldType.int) 1 false := ⟨in_6 (List.mem_of_getElem? (i := 101) rfl), in_1 (List.mem_of_getElem? (i := 1) rfl), ⟨by decide +kernel, by decide +kernel, by decide +kernel⟩, by decide +kernel, by decide, ⟨in_6 (List.mem_of_getElem? (i := 99) rfl), in_6 (List.mem_of_getElem? (i := 100) rfl)⟩⟩
def y_BT_cell : MethodName := ⟨"BreathTown", "cell", "([II)I"⟩
theorem mk_BT_cell : mOk y_BT_cell prog_1_method_42_code 2 (Option.some Jvm.ClassFile.FieldType.int) 2 true := ⟨in_3 (List.mem_of_getElem? (i := 22) rfl), in_1 (List.mem_of_getElem? (i := 1) rfl), ⟨by decide +kernel, by decide +kernel, by decide +kernel⟩, by decide +kernel, by decide, in_3 (List.mem_of_getElem? (i := 21) rfl)⟩
def y_M_on : MethodName := ⟨"BreathTownModel", "on", "()Z"⟩
theorem mk_M_on : mOk y_M_on prog_14_method_151_code 4 (Option.some Jvm.ClassFile.FieldType.boolean) 0 false := ⟨in_10 (List.mem_of_getElem? (i := 60) rfl), in_1 (List.mem_of_getElem? (i := 13) rfl), ⟨by decide +kernel, by decide +kernel, by decide +kernel⟩, by decide +kernel, by decide, ⟨in_10 (List.mem_of_getElem? (i := 58) rfl), in_10 (List.mem_of_getElem? (i := 59) rfl)⟩⟩
def y_M_streetMany : MethodName := ⟨"BreathTownModel", "streetMany", "()I"⟩
theorem mk_M_streetMany : mOk y_M_streetMany prog_14_method_44_code 1 (Option.some Jvm.ClassFile.FieldType.int) 0 false := ⟨in_8 (List.mem_of_getElem? (i := 85) rfl), in_1 (List.mem_of_getElem? (i := 13) rfl), ⟨by decide +kernel, by decide +kernel, by decide +kernel⟩, by decide +kernel, by decide, ⟨in_8 (List.mem_of_getElem? (i := 84) rfl), lw_pv (i := 75) (by decide +kernel)⟩⟩
def y_M_walkerMany : MethodName := ⟨"BreathTownModel", "walkerMany", "()I"⟩
theorem mk_M_walkerMany : mOk y_M_walkerMany prog_14_method_45_code 1 (Option.some Jvm.ClassFile.FieldType.int) 0 false := ⟨in_8 (List.mem_of_getElem? (i := 89) rfl), in_1 (List.mem_of_getElem? (i := 13) rfl), ⟨by decide +kernel, by decide +kernel, by decide +kernel⟩, by decide +kernel, by decide, ⟨in_8 (List.mem_of_getElem? (i := 88) rfl), lw_pv (i := 76) (by decide +kernel)⟩⟩
def y_M_isTold : MethodName := ⟨"BreathTownModel", "isTold", "(I)Z"⟩
theorem mk_M_isTold : mOk y_M_isTold prog_14_method_150_code 8 (Option.some Jvm.ClassFile.FieldType.boolean) 1 false := ⟨in_10 (List.mem_of_getElem? (i := 64) rfl), in_1 (List.mem_of_getElem? (i := 13) rfl), ⟨by decide +kernel, by decide +kernel, by decide +kernel⟩, by decide +kernel, by decide, ⟨in_10 (List.mem_of_getElem? (i := 63) rfl), lw_pv (i := 151) (by decide +kernel)⟩⟩
def y_M_roundOf : MethodName := ⟨"BreathTownModel", "roundOf", "(I)I"⟩
theorem mk_M_roundOf : mOk y_M_roundOf prog_14_method_51_code 2 (Option.some Jvm.ClassFile.FieldType.int) 1 false := ⟨in_8 (List.mem_of_getElem? (i := 123) rfl), in_1 (List.mem_of_getElem? (i := 13) rfl), ⟨by decide +kernel, by decide +kernel, by decide +kernel⟩, by decide +kernel, by decide, ⟨in_8 (List.mem_of_getElem? (i := 122) rfl), lw_pv (i := 82) (by decide +kernel)⟩⟩
def y_M_checked : MethodName := ⟨"BreathTownModel", "checked", "([II)I"⟩
theorem mk_M_checked : mOk y_M_checked prog_14_method_146_code 4 (Option.some Jvm.ClassFile.FieldType.int) 2 true := ⟨in_10 (List.mem_of_getElem? (i := 52) rfl), in_1 (List.mem_of_getElem? (i := 13) rfl), ⟨by decide +kernel, by decide +kernel, by decide +kernel⟩, by decide +kernel, by decide, in_10 (List.mem_of_getElem? (i := 51) rfl)⟩
def y_BT_on : MethodName := ⟨"BreathTown", "on", "()Z"⟩
theorem mk_BT_on : mOk y_BT_on prog_1_method_34_code 2 (Option.some Jvm.ClassFile.FieldType.boolean) 0 false := ⟨in_6 (List.mem_of_getElem? (i := 81) rfl), in_1 (List.mem_of_getElem? (i := 1) rfl), ⟨by decide +kernel, by decide +kernel, by decide +kernel⟩, by decide +kernel, by decide, ⟨in_6 (List.mem_of_getElem? (i := 79) rfl), in_6 (List.mem_of_getElem? (i := 80) rfl)⟩⟩
def y_BT_refused : MethodName := ⟨"BreathTown", "refused", "(I)I"⟩
theorem mk_BT_refused : mOk y_BT_refused prog_1_method_36_code 2 (Option.some Jvm.ClassFile.FieldType.int) 1 false := ⟨in_3 (List.mem_of_getElem? (i := 19) rfl), in_1 (List.mem_of_getElem? (i := 1) rfl), ⟨by decide +kernel, by decide +kernel, by decide +kernel⟩, by decide +kernel, by decide, ⟨in_3 (List.mem_of_getElem? (i := 18) rfl), lw_pv (i := 0) (by decide +kernel)⟩⟩
def y_BT_setCell : MethodName := ⟨"BreathTown", "setCell", "([III)V"⟩
theorem mk_BT_setCell : mOk y_BT_setCell prog_1_method_43_code 3 (Option.none : Option Jvm.ClassFile.FieldType) 3 true := ⟨in_3 (List.mem_of_getElem? (i := 25) rfl), in_1 (List.mem_of_getElem? (i := 1) rfl), ⟨by decide +kernel, by decide +kernel, by decide +kernel⟩, by decide +kernel, by decide, in_3 (List.mem_of_getElem? (i := 24) rfl)⟩
def y_Now_restore : MethodName := ⟨"BreathTown$Now", "restore", "(LBreathTown$Scan;)V"⟩
theorem mk_Now_restore : mOk y_Now_restore prog_4_method_17_code 5 (Option.none : Option Jvm.ClassFile.FieldType) 1 false := ⟨in_6 (List.mem_of_getElem? (i := 97) rfl), in_1 (List.mem_of_getElem? (i := 7) rfl), ⟨by decide +kernel, by decide +kernel, by decide +kernel⟩, by decide +kernel, by decide, ⟨in_6 (List.mem_of_getElem? (i := 95) rfl), in_6 (List.mem_of_getElem? (i := 96) rfl)⟩⟩
def y_Now_hourAt : MethodName := ⟨"BreathTown$Now", "hourAt", "(LBreathTown$Scan;I)I"⟩
theorem mk_Now_hourAt : mOk y_Now_hourAt prog_4_method_14_code 2 (Option.some Jvm.ClassFile.FieldType.int) 2 true := ⟨in_6 (List.mem_of_getElem? (i := 89) rfl), in_1 (List.mem_of_getElem? (i := 7) rfl), ⟨by decide +kernel, by decide +kernel, by decide +kernel⟩, by decide +kernel, by decide, in_6 (List.mem_of_getElem? (i := 88) rfl)⟩
def y_Scan_byteAt : MethodName := ⟨"BreathTown$Scan", "byteAt", "(I)I"⟩
theorem mk_Scan_byteAt : mOk y_Scan_byteAt prog_7_method_4_code 2 (Option.some Jvm.ClassFile.FieldType.int) 1 false := ⟨in_3 (List.mem_of_getElem? (i := 88) rfl), in_1 (List.mem_of_getElem? (i := 2) rfl), ⟨by decide +kernel, by decide +kernel, by decide +kernel⟩, by decide +kernel, by decide, ⟨in_3 (List.mem_of_getElem? (i := 86) rfl), in_3 (List.mem_of_getElem? (i := 87) rfl)⟩⟩
def y_Told_count : MethodName := ⟨"BreathTown$Told", "count", "(I)I"⟩
theorem mk_Told_count : mOk y_Told_count prog_9_method_4_code 2 (Option.some Jvm.ClassFile.FieldType.int) 1 false := ⟨in_3 (List.mem_of_getElem? (i := 137) rfl), in_1 (List.mem_of_getElem? (i := 3) rfl), ⟨by decide +kernel, by decide +kernel, by decide +kernel⟩, by decide +kernel, by decide, ⟨in_3 (List.mem_of_getElem? (i := 135) rfl), in_3 (List.mem_of_getElem? (i := 136) rfl)⟩⟩
def y_Now_isPicture : MethodName := ⟨"BreathTown$Now", "isPicture", "(LBreathTown$Scan;)Z"⟩
theorem mk_Now_isPicture : mOk y_Now_isPicture prog_4_method_15_code 6 (Option.some Jvm.ClassFile.FieldType.boolean) 1 false := ⟨in_6 (List.mem_of_getElem? (i := 85) rfl), in_1 (List.mem_of_getElem? (i := 7) rfl), ⟨by decide +kernel, by decide +kernel, by decide +kernel⟩, by decide +kernel, by decide, ⟨in_6 (List.mem_of_getElem? (i := 83) rfl), in_6 (List.mem_of_getElem? (i := 84) rfl)⟩⟩
def y_Now_isWalker : MethodName := ⟨"BreathTown$Now", "isWalker", "(LBreathTown$Scan;II)Z"⟩
theorem mk_Now_isWalker : mOk y_Now_isWalker prog_4_method_16_code 9 (Option.some Jvm.ClassFile.FieldType.boolean) 3 false := ⟨in_6 (List.mem_of_getElem? (i := 93) rfl), in_1 (List.mem_of_getElem? (i := 7) rfl), ⟨by decide +kernel, by decide +kernel, by decide +kernel⟩, by decide +kernel, by decide, ⟨in_6 (List.mem_of_getElem? (i := 92) rfl), lw_pv (i := 44) (by decide +kernel)⟩⟩
def y_Now_check : MethodName := ⟨"BreathTown$Now", "check", "([II)I"⟩
theorem mk_Now_check : mOk y_Now_check prog_4_method_13_code 4 (Option.some Jvm.ClassFile.FieldType.int) 2 true := ⟨in_6 (List.mem_of_getElem? (i := 73) rfl), in_1 (List.mem_of_getElem? (i := 7) rfl), ⟨by decide +kernel, by decide +kernel, by decide +kernel⟩, by decide +kernel, by decide, in_6 (List.mem_of_getElem? (i := 72) rfl)⟩
def y_M_octet : MethodName := ⟨"BreathTownModel", "octet", "(I)I"⟩
theorem mk_M_octet : mOk y_M_octet prog_14_method_149_code 2 (Option.some Jvm.ClassFile.FieldType.int) 1 false := ⟨in_10 (List.mem_of_getElem? (i := 56) rfl), in_1 (List.mem_of_getElem? (i := 13) rfl), ⟨by decide +kernel, by decide +kernel, by decide +kernel⟩, by decide +kernel, by decide, ⟨in_10 (List.mem_of_getElem? (i := 54) rfl), in_10 (List.mem_of_getElem? (i := 55) rfl)⟩⟩
def y_BT_octet : MethodName := ⟨"BreathTown", "octet", "(I)I"⟩
theorem mk_BT_octet : mOk y_BT_octet prog_1_method_33_code 2 (Option.some Jvm.ClassFile.FieldType.int) 1 false := ⟨in_6 (List.mem_of_getElem? (i := 77) rfl), in_1 (List.mem_of_getElem? (i := 1) rfl), ⟨by decide +kernel, by decide +kernel, by decide +kernel⟩, by decide +kernel, by decide, ⟨in_6 (List.mem_of_getElem? (i := 75) rfl), in_6 (List.mem_of_getElem? (i := 76) rfl)⟩⟩
def y_M_image : MethodName := ⟨"BreathTownModel", "image", "()I"⟩
theorem mk_M_image : mOk y_M_image prog_14_method_148_code 2 (Option.some Jvm.ClassFile.FieldType.int) 0 false := ⟨in_10 (List.mem_of_getElem? (i := 45) rfl), in_1 (List.mem_of_getElem? (i := 13) rfl), ⟨by decide +kernel, by decide +kernel, by decide +kernel⟩, by decide +kernel, by decide, ⟨in_10 (List.mem_of_getElem? (i := 43) rfl), in_10 (List.mem_of_getElem? (i := 44) rfl)⟩⟩
def y_M_writes : MethodName := ⟨"BreathTownModel", "writes", "(I)V"⟩
theorem mk_M_writes : mOk y_M_writes prog_14_method_147_code 2 (Option.none : Option Jvm.ClassFile.FieldType) 1 false := ⟨in_10 (List.mem_of_getElem? (i := 49) rfl), in_1 (List.mem_of_getElem? (i := 13) rfl), ⟨by decide +kernel, by decide +kernel, by decide +kernel⟩, by decide +kernel, by decide, ⟨in_10 (List.mem_of_getElem? (i := 48) rfl), lw_pv (i := 150) (by decide +kernel)⟩⟩
def y_M_goalOf : MethodName := ⟨"BreathTownModel", "goalOf", "(I)I"⟩
theorem mk_M_goalOf : mOk y_M_goalOf prog_14_method_55_code 2 (Option.some Jvm.ClassFile.FieldType.int) 1 false := ⟨in_8 (List.mem_of_getElem? (i := 174) rfl), in_1 (List.mem_of_getElem? (i := 13) rfl), ⟨by decide +kernel, by decide +kernel, by decide +kernel⟩, by decide +kernel, by decide, ⟨in_8 (List.mem_of_getElem? (i := 173) rfl), lw_pv (i := 91) (by decide +kernel)⟩⟩
def y_M_placeOf : MethodName := ⟨"BreathTownModel", "placeOf", "(I)I"⟩
theorem mk_M_placeOf : mOk y_M_placeOf prog_14_method_54_code 2 (Option.some Jvm.ClassFile.FieldType.int) 1 false := ⟨in_8 (List.mem_of_getElem? (i := 170) rfl), in_1 (List.mem_of_getElem? (i := 13) rfl), ⟨by decide +kernel, by decide +kernel, by decide +kernel⟩, by decide +kernel, by decide, ⟨in_8 (List.mem_of_getElem? (i := 169) rfl), lw_pv (i := 90) (by decide +kernel)⟩⟩
def y_M_shiftOf : MethodName := ⟨"BreathTownModel", "shiftOf", "(I)I"⟩
theorem mk_M_shiftOf : mOk y_M_shiftOf prog_14_method_52_code 2 (Option.some Jvm.ClassFile.FieldType.int) 1 false := ⟨in_8 (List.mem_of_getElem? (i := 115) rfl), in_1 (List.mem_of_getElem? (i := 13) rfl), ⟨by decide +kernel, by decide +kernel, by decide +kernel⟩, by decide +kernel, by decide, ⟨in_8 (List.mem_of_getElem? (i := 114) rfl), lw_pv (i := 80) (by decide +kernel)⟩⟩
def y_BT_image : MethodName := ⟨"BreathTown", "image", "()I"⟩
theorem mk_BT_image : mOk y_BT_image prog_1_method_32_code 1 (Option.some Jvm.ClassFile.FieldType.int) 0 false := ⟨in_6 (List.mem_of_getElem? (i := 58) rfl), in_1 (List.mem_of_getElem? (i := 1) rfl), ⟨by decide +kernel, by decide +kernel, by decide +kernel⟩, by decide +kernel, by decide, ⟨in_6 (List.mem_of_getElem? (i := 56) rfl), in_6 (List.mem_of_getElem? (i := 57) rfl)⟩⟩
def y_Now_draw : MethodName := ⟨"BreathTown$Now", "draw", "()V"⟩
theorem mk_Now_draw : mOk y_Now_draw prog_4_method_12_code 2 (Option.none : Option Jvm.ClassFile.FieldType) 0 false := ⟨in_6 (List.mem_of_getElem? (i := 62) rfl), in_1 (List.mem_of_getElem? (i := 7) rfl), ⟨by decide +kernel, by decide +kernel, by decide +kernel⟩, by decide +kernel, by decide, ⟨in_6 (List.mem_of_getElem? (i := 60) rfl), in_6 (List.mem_of_getElem? (i := 61) rfl)⟩⟩
def y_Now_write : MethodName := ⟨"BreathTown$Now", "write", "(I)V"⟩
theorem mk_Now_write : mOk y_Now_write prog_4_method_10_code 2 (Option.none : Option Jvm.ClassFile.FieldType) 1 false := ⟨in_6 (List.mem_of_getElem? (i := 70) rfl), in_1 (List.mem_of_getElem? (i := 7) rfl), ⟨by decide +kernel, by decide +kernel, by decide +kernel⟩, by decide +kernel, by decide, ⟨in_6 (List.mem_of_getElem? (i := 69) rfl), lw_pv (i := 43) (by decide +kernel)⟩⟩
def y_Now_writeHour : MethodName := ⟨"BreathTown$Now", "writeHour", "(I)V"⟩
theorem mk_Now_writeHour : mOk y_Now_writeHour prog_4_method_11_code 2 (Option.none : Option Jvm.ClassFile.FieldType) 1 false := ⟨in_6 (List.mem_of_getElem? (i := 66) rfl), in_1 (List.mem_of_getElem? (i := 7) rfl), ⟨by decide +kernel, by decide +kernel, by decide +kernel⟩, by decide +kernel, by decide, ⟨in_6 (List.mem_of_getElem? (i := 65) rfl), lw_pv (i := 42) (by decide +kernel)⟩⟩
def y_M_ask : MethodName := ⟨"BreathTownModel", "ask", "()J"⟩
theorem mk_M_ask : mOk y_M_ask prog_14_method_144_code 3 (Option.some Jvm.ClassFile.FieldType.long) 0 false := ⟨in_9 (List.mem_of_getElem? (i := 167) rfl), in_1 (List.mem_of_getElem? (i := 13) rfl), ⟨by decide +kernel, by decide +kernel, by decide +kernel⟩, by decide +kernel, by decide, ⟨in_9 (List.mem_of_getElem? (i := 165) rfl), in_9 (List.mem_of_getElem? (i := 166) rfl)⟩⟩
def y_M_qTakes : MethodName := ⟨"BreathTownModel", "qTakes", "(IJI)V"⟩
theorem mk_M_qTakes : mOk y_M_qTakes prog_14_method_143_code 6 (Option.none : Option Jvm.ClassFile.FieldType) 3 false := ⟨in_10 (List.mem_of_getElem? (i := 41) rfl), in_1 (List.mem_of_getElem? (i := 13) rfl), ⟨by decide +kernel, by decide +kernel, by decide +kernel⟩, by decide +kernel, by decide, ⟨in_10 (List.mem_of_getElem? (i := 40) rfl), lw_pv (i := 149) (by decide +kernel)⟩⟩
def y_M_qTold : MethodName := ⟨"BreathTownModel", "qTold", "(I)J"⟩
theorem mk_M_qTold : mOk y_M_qTold prog_14_method_141_code 4 (Option.some Jvm.ClassFile.FieldType.long) 1 false := ⟨in_10 (List.mem_of_getElem? (i := 11) rfl), in_1 (List.mem_of_getElem? (i := 13) rfl), ⟨by decide +kernel, by decide +kernel, by decide +kernel⟩, by decide +kernel, by decide, ⟨in_10 (List.mem_of_getElem? (i := 10) rfl), lw_pv (i := 143) (by decide +kernel)⟩⟩
def y_M_qJoins : MethodName := ⟨"BreathTownModel", "qJoins", "(I)V"⟩
theorem mk_M_qJoins : mOk y_M_qJoins prog_14_method_138_code 6 (Option.none : Option Jvm.ClassFile.FieldType) 1 false := ⟨in_10 (List.mem_of_getElem? (i := 34) rfl), in_1 (List.mem_of_getElem? (i := 13) rfl), ⟨by decide +kernel, by decide +kernel, by decide +kernel⟩, by decide +kernel, by decide, ⟨in_10 (List.mem_of_getElem? (i := 33) rfl), lw_pv (i := 148) (by decide +kernel)⟩⟩
def y_M_qPuts : MethodName := ⟨"BreathTownModel", "qPuts", "(J)V"⟩
theorem mk_M_qPuts : mOk y_M_qPuts prog_14_method_137_code 3 (Option.none : Option Jvm.ClassFile.FieldType) 1 false := ⟨in_10 (List.mem_of_getElem? (i := 15) rfl), in_1 (List.mem_of_getElem? (i := 13) rfl), ⟨by decide +kernel, by decide +kernel, by decide +kernel⟩, by decide +kernel, by decide, ⟨in_10 (List.mem_of_getElem? (i := 14) rfl), lw_pv (i := 144) (by decide +kernel)⟩⟩
def y_M_qFloor : MethodName := ⟨"BreathTownModel", "qFloor", "(JJ)J"⟩
theorem mk_M_qFloor : mOk y_M_qFloor prog_14_method_136_code 6 (Option.some Jvm.ClassFile.FieldType.long) 2 true := ⟨in_10 (List.mem_of_getElem? (i := 37) rfl), in_1 (List.mem_of_getElem? (i := 13) rfl), ⟨by decide +kernel, by decide +kernel, by decide +kernel⟩, by decide +kernel, by decide, in_10 (List.mem_of_getElem? (i := 36) rfl)⟩
def y_M_qClip : MethodName := ⟨"BreathTownModel", "qClip", "(J)J"⟩
theorem mk_M_qClip : mOk y_M_qClip prog_14_method_135_code 2 (Option.some Jvm.ClassFile.FieldType.long) 1 true := ⟨in_10 (List.mem_of_getElem? (i := 26) rfl), in_1 (List.mem_of_getElem? (i := 13) rfl), ⟨by decide +kernel, by decide +kernel, by decide +kernel⟩, by decide +kernel, by decide, in_10 (List.mem_of_getElem? (i := 25) rfl)⟩
def y_M_qPartOf : MethodName := ⟨"BreathTownModel", "qPartOf", "(II)J"⟩
theorem mk_M_qPartOf : mOk y_M_qPartOf prog_14_method_139_code 3 (Option.some Jvm.ClassFile.FieldType.long) 2 false := ⟨in_10 (List.mem_of_getElem? (i := 30) rfl), in_1 (List.mem_of_getElem? (i := 13) rfl), ⟨by decide +kernel, by decide +kernel, by decide +kernel⟩, by decide +kernel, by decide, ⟨in_10 (List.mem_of_getElem? (i := 29) rfl), lw_pv (i := 147) (by decide +kernel)⟩⟩
def y_M_qOf : MethodName := ⟨"BreathTownModel", "qOf", "(IJI)J"⟩
theorem mk_M_qOf : mOk y_M_qOf prog_14_method_140_code 5 (Option.some Jvm.ClassFile.FieldType.long) 3 false := ⟨in_10 (List.mem_of_getElem? (i := 19) rfl), in_1 (List.mem_of_getElem? (i := 13) rfl), ⟨by decide +kernel, by decide +kernel, by decide +kernel⟩, by decide +kernel, by decide, ⟨in_10 (List.mem_of_getElem? (i := 18) rfl), lw_pv (i := 145) (by decide +kernel)⟩⟩
def y_M_passedBy : MethodName := ⟨"BreathTownModel", "passedBy", "(II)J"⟩
theorem mk_M_passedBy : mOk y_M_passedBy prog_14_method_145_code 5 (Option.some Jvm.ClassFile.FieldType.long) 2 false := ⟨in_10 (List.mem_of_getElem? (i := 23) rfl), in_1 (List.mem_of_getElem? (i := 13) rfl), ⟨by decide +kernel, by decide +kernel, by decide +kernel⟩, by decide +kernel, by decide, ⟨in_10 (List.mem_of_getElem? (i := 22) rfl), lw_pv (i := 146) (by decide +kernel)⟩⟩
def y_M_isPassed : MethodName := ⟨"BreathTownModel", "isPassed", "(III)Z"⟩
theorem mk_M_isPassed : mOk y_M_isPassed prog_14_method_61_code 4 (Option.some Jvm.ClassFile.FieldType.boolean) 3 false := ⟨in_8 (List.mem_of_getElem? (i := 190) rfl), in_1 (List.mem_of_getElem? (i := 13) rfl), ⟨by decide +kernel, by decide +kernel, by decide +kernel⟩, by decide +kernel, by decide, ⟨in_8 (List.mem_of_getElem? (i := 189) rfl), lw_pv (i := 92) (by decide +kernel)⟩⟩
def y_M_isWide : MethodName := ⟨"BreathTownModel", "isWide", "(IIII)Z"⟩
theorem mk_M_isWide : mOk y_M_isWide prog_14_method_60_code 6 (Option.some Jvm.ClassFile.FieldType.boolean) 4 false := ⟨in_8 (List.mem_of_getElem? (i := 198) rfl), in_1 (List.mem_of_getElem? (i := 13) rfl), ⟨by decide +kernel, by decide +kernel, by decide +kernel⟩, by decide +kernel, by decide, ⟨in_8 (List.mem_of_getElem? (i := 197) rfl), lw_pv (i := 94) (by decide +kernel)⟩⟩
def y_M_widthOf : MethodName := ⟨"BreathTownModel", "widthOf", "(II)I"⟩
theorem mk_M_widthOf : mOk y_M_widthOf prog_14_method_59_code 3 (Option.some Jvm.ClassFile.FieldType.int) 2 false := ⟨in_8 (List.mem_of_getElem? (i := 127) rfl), in_1 (List.mem_of_getElem? (i := 13) rfl), ⟨by decide +kernel, by decide +kernel, by decide +kernel⟩, by decide +kernel, by decide, ⟨in_8 (List.mem_of_getElem? (i := 126) rfl), lw_pv (i := 83) (by decide +kernel)⟩⟩
def y_M_widthBy : MethodName := ⟨"BreathTownModel", "widthBy", "(III)I"⟩
theorem mk_M_widthBy : mOk y_M_widthBy prog_14_method_58_code 6 (Option.some Jvm.ClassFile.FieldType.int) 3 false := ⟨in_8 (List.mem_of_getElem? (i := 131) rfl), in_1 (List.mem_of_getElem? (i := 13) rfl), ⟨by decide +kernel, by decide +kernel, by decide +kernel⟩, by decide +kernel, by decide, ⟨in_8 (List.mem_of_getElem? (i := 130) rfl), lw_pv (i := 84) (by decide +kernel)⟩⟩
def y_M_told : MethodName := ⟨"BreathTownModel", "told", "(II)J"⟩
theorem mk_M_told : mOk y_M_told prog_14_method_42_code 5 (Option.some Jvm.ClassFile.FieldType.long) 2 false := ⟨in_8 (List.mem_of_getElem? (i := 135) rfl), in_1 (List.mem_of_getElem? (i := 13) rfl), ⟨by decide +kernel, by decide +kernel, by decide +kernel⟩, by decide +kernel, by decide, ⟨in_8 (List.mem_of_getElem? (i := 134) rfl), lw_pv (i := 85) (by decide +kernel)⟩⟩
def y_M_joins : MethodName := ⟨"BreathTownModel", "joins", "(I)V"⟩
theorem mk_M_joins : mOk y_M_joins prog_14_method_41_code 6 (Option.none : Option Jvm.ClassFile.FieldType) 1 false := ⟨in_8 (List.mem_of_getElem? (i := 145) rfl), in_1 (List.mem_of_getElem? (i := 13) rfl), ⟨by decide +kernel, by decide +kernel, by decide +kernel⟩, by decide +kernel, by decide, ⟨in_8 (List.mem_of_getElem? (i := 144) rfl), lw_pv (i := 87) (by decide +kernel)⟩⟩
def y_M_puts : MethodName := ⟨"BreathTownModel", "puts", "(J)V"⟩
theorem mk_M_puts : mOk y_M_puts prog_14_method_40_code 3 (Option.none : Option Jvm.ClassFile.FieldType) 1 false := ⟨in_8 (List.mem_of_getElem? (i := 139) rfl), in_1 (List.mem_of_getElem? (i := 13) rfl), ⟨by decide +kernel, by decide +kernel, by decide +kernel⟩, by decide +kernel, by decide, ⟨in_8 (List.mem_of_getElem? (i := 138) rfl), lw_pv (i := 86) (by decide +kernel)⟩⟩
def y_M_floor : MethodName := ⟨"BreathTownModel", "floor", "(JJ)J"⟩
theorem mk_M_floor : mOk y_M_floor prog_14_method_39_code 6 (Option.some Jvm.ClassFile.FieldType.long) 2 true := ⟨in_8 (List.mem_of_getElem? (i := 153) rfl), in_1 (List.mem_of_getElem? (i := 13) rfl), ⟨by decide +kernel, by decide +kernel, by decide +kernel⟩, by decide +kernel, by decide, in_8 (List.mem_of_getElem? (i := 152) rfl)⟩
def y_M_clip : MethodName := ⟨"BreathTownModel", "clip", "(J)J"⟩
theorem mk_M_clip : mOk y_M_clip prog_14_method_38_code 2 (Option.some Jvm.ClassFile.FieldType.long) 1 true := ⟨in_8 (List.mem_of_getElem? (i := 148) rfl), in_1 (List.mem_of_getElem? (i := 13) rfl), ⟨by decide +kernel, by decide +kernel, by decide +kernel⟩, by decide +kernel, by decide, in_8 (List.mem_of_getElem? (i := 147) rfl)⟩
def y_M_tideOf : MethodName := ⟨"BreathTownModel", "tideOf", "(III)I"⟩
theorem mk_M_tideOf : mOk y_M_tideOf prog_14_method_57_code 4 (Option.some Jvm.ClassFile.FieldType.int) 3 false := ⟨in_8 (List.mem_of_getElem? (i := 119) rfl), in_1 (List.mem_of_getElem? (i := 13) rfl), ⟨by decide +kernel, by decide +kernel, by decide +kernel⟩, by decide +kernel, by decide, ⟨in_8 (List.mem_of_getElem? (i := 118) rfl), lw_pv (i := 81) (by decide +kernel)⟩⟩
def y_M_takesOf : MethodName := ⟨"BreathTownModel", "takesOf", "(I)I"⟩
theorem mk_M_takesOf : mOk y_M_takesOf prog_14_method_50_code 2 (Option.some Jvm.ClassFile.FieldType.int) 1 false := ⟨in_8 (List.mem_of_getElem? (i := 194) rfl), in_1 (List.mem_of_getElem? (i := 13) rfl), ⟨by decide +kernel, by decide +kernel, by decide +kernel⟩, by decide +kernel, by decide, ⟨in_8 (List.mem_of_getElem? (i := 193) rfl), lw_pv (i := 93) (by decide +kernel)⟩⟩
def y_M_broadOf : MethodName := ⟨"BreathTownModel", "broadOf", "(I)I"⟩
theorem mk_M_broadOf : mOk y_M_broadOf prog_14_method_53_code 2 (Option.some Jvm.ClassFile.FieldType.int) 1 false := ⟨in_8 (List.mem_of_getElem? (i := 166) rfl), in_1 (List.mem_of_getElem? (i := 13) rfl), ⟨by decide +kernel, by decide +kernel, by decide +kernel⟩, by decide +kernel, by decide, ⟨in_8 (List.mem_of_getElem? (i := 165) rfl), lw_pv (i := 89) (by decide +kernel)⟩⟩
def y_M_fail : MethodName := ⟨"BreathTownModel", "fail", "(II)V"⟩
theorem mk_M_fail : mOk y_M_fail prog_14_method_5_code 3 (Option.none : Option Jvm.ClassFile.FieldType) 2 false := ⟨in_7 (List.mem_of_getElem? (i := 194) rfl), in_1 (List.mem_of_getElem? (i := 13) rfl), ⟨by decide +kernel, by decide +kernel, by decide +kernel⟩, by decide +kernel, by decide, ⟨in_7 (List.mem_of_getElem? (i := 193) rfl), lw_pv (i := 47) (by decide +kernel)⟩⟩
def y_M_look : MethodName := ⟨"BreathTownModel", "look", "()I"⟩
theorem mk_M_look : mOk y_M_look prog_14_method_8_code 1 (Option.some Jvm.ClassFile.FieldType.int) 0 false := ⟨in_7 (List.mem_of_getElem? (i := 186) rfl), in_1 (List.mem_of_getElem? (i := 13) rfl), ⟨by decide +kernel, by decide +kernel, by decide +kernel⟩, by decide +kernel, by decide, ⟨in_7 (List.mem_of_getElem? (i := 185) rfl), lw_pv (i := 45) (by decide +kernel)⟩⟩
def y_M_qSums : MethodName := ⟨"BreathTownModel", "qSums", "()V"⟩
theorem mk_M_qSums : mOk y_M_qSums prog_14_method_129_code 3 (Option.none : Option Jvm.ClassFile.FieldType) 0 false := ⟨in_9 (List.mem_of_getElem? (i := 191) rfl), in_1 (List.mem_of_getElem? (i := 13) rfl), ⟨by decide +kernel, by decide +kernel, by decide +kernel⟩, by decide +kernel, by decide, ⟨in_9 (List.mem_of_getElem? (i := 190) rfl), lw_pv (i := 129) (by decide +kernel)⟩⟩
def y_M_qDrops : MethodName := ⟨"BreathTownModel", "qDrops", "()V"⟩
theorem mk_M_qDrops : mOk y_M_qDrops prog_14_method_119_code 1 (Option.none : Option Jvm.ClassFile.FieldType) 0 false := ⟨in_9 (List.mem_of_getElem? (i := 215) rfl), in_1 (List.mem_of_getElem? (i := 13) rfl), ⟨by decide +kernel, by decide +kernel, by decide +kernel⟩, by decide +kernel, by decide, ⟨in_9 (List.mem_of_getElem? (i := 214) rfl), lw_pv (i := 135) (by decide +kernel)⟩⟩
def y_M_qCode : MethodName := ⟨"BreathTownModel", "qCode", "(I)V"⟩
theorem mk_M_qCode : mOk y_M_qCode prog_14_method_116_code 2 (Option.none : Option Jvm.ClassFile.FieldType) 1 false := ⟨in_9 (List.mem_of_getElem? (i := 187) rfl), in_1 (List.mem_of_getElem? (i := 13) rfl), ⟨by decide +kernel, by decide +kernel, by decide +kernel⟩, by decide +kernel, by decide, ⟨in_9 (List.mem_of_getElem? (i := 186) rfl), lw_pv (i := 128) (by decide +kernel)⟩⟩
def y_M_qGoesOn : MethodName := ⟨"BreathTownModel", "qGoesOn", "()Z"⟩
theorem mk_M_qGoesOn : mOk y_M_qGoesOn prog_14_method_128_code 2 (Option.some Jvm.ClassFile.FieldType.boolean) 0 false := ⟨in_9 (List.mem_of_getElem? (i := 219) rfl), in_1 (List.mem_of_getElem? (i := 13) rfl), ⟨by decide +kernel, by decide +kernel, by decide +kernel⟩, by decide +kernel, by decide, ⟨in_9 (List.mem_of_getElem? (i := 218) rfl), lw_pv (i := 136) (by decide +kernel)⟩⟩
def y_M_qBracket : MethodName := ⟨"BreathTownModel", "qBracket", "()I"⟩
theorem mk_M_qBracket : mOk y_M_qBracket prog_14_method_121_code 2 (Option.some Jvm.ClassFile.FieldType.int) 0 false := ⟨in_9 (List.mem_of_getElem? (i := 223) rfl), in_1 (List.mem_of_getElem? (i := 13) rfl), ⟨by decide +kernel, by decide +kernel, by decide +kernel⟩, by decide +kernel, by decide, ⟨in_9 (List.mem_of_getElem? (i := 222) rfl), lw_pv (i := 137) (by decide +kernel)⟩⟩
def y_M_qIsBracket : MethodName := ⟨"BreathTownModel", "qIsBracket", "(I)Z"⟩
theorem mk_M_qIsBracket : mOk y_M_qIsBracket prog_14_method_120_code 1 (Option.some Jvm.ClassFile.FieldType.boolean) 1 true := ⟨in_9 (List.mem_of_getElem? (i := 226) rfl), in_1 (List.mem_of_getElem? (i := 13) rfl), ⟨by decide +kernel, by decide +kernel, by decide +kernel⟩, by decide +kernel, by decide, in_9 (List.mem_of_getElem? (i := 225) rfl)⟩
def y_M_qDropsToBracket : MethodName := ⟨"BreathTownModel", "qDropsToBracket", "()V"⟩
theorem mk_M_qDropsToBracket : mOk y_M_qDropsToBracket prog_14_method_122_code 1 (Option.none : Option Jvm.ClassFile.FieldType) 0 false := ⟨in_9 (List.mem_of_getElem? (i := 230) rfl), in_1 (List.mem_of_getElem? (i := 13) rfl), ⟨by decide +kernel, by decide +kernel, by decide +kernel⟩, by decide +kernel, by decide, ⟨in_9 (List.mem_of_getElem? (i := 229) rfl), lw_pv (i := 138) (by decide +kernel)⟩⟩
def y_M_asksSign : MethodName := ⟨"BreathTownModel", "asksSign", "(I)V"⟩
theorem mk_M_asksSign : mOk y_M_asksSign prog_14_method_13_code 2 (Option.none : Option Jvm.ClassFile.FieldType) 1 false := ⟨in_8 (List.mem_of_getElem? (i := 29) rfl), in_1 (List.mem_of_getElem? (i := 13) rfl), ⟨by decide +kernel, by decide +kernel, by decide +kernel⟩, by decide +kernel, by decide, ⟨in_8 (List.mem_of_getElem? (i := 28) rfl), lw_pv (i := 63) (by decide +kernel)⟩⟩
def y_M_takesSign : MethodName := ⟨"BreathTownModel", "takesSign", "(I)Z"⟩
theorem mk_M_takesSign : mOk y_M_takesSign prog_14_method_12_code 2 (Option.some Jvm.ClassFile.FieldType.boolean) 1 false := ⟨in_8 (List.mem_of_getElem? (i := 33) rfl), in_1 (List.mem_of_getElem? (i := 13) rfl), ⟨by decide +kernel, by decide +kernel, by decide +kernel⟩, by decide +kernel, by decide, ⟨in_8 (List.mem_of_getElem? (i := 32) rfl), lw_pv (i := 64) (by decide +kernel)⟩⟩
def y_M_qIsOn : MethodName := ⟨"BreathTownModel", "qIsOn", "(I)Z"⟩
theorem mk_M_qIsOn : mOk y_M_qIsOn prog_14_method_118_code 2 (Option.some Jvm.ClassFile.FieldType.boolean) 1 false := ⟨in_9 (List.mem_of_getElem? (i := 234) rfl), in_1 (List.mem_of_getElem? (i := 13) rfl), ⟨by decide +kernel, by decide +kernel, by decide +kernel⟩, by decide +kernel, by decide, ⟨in_9 (List.mem_of_getElem? (i := 233) rfl), lw_pv (i := 139) (by decide +kernel)⟩⟩
def y_M_qEndsPart : MethodName := ⟨"BreathTownModel", "qEndsPart", "()V"⟩
theorem mk_M_qEndsPart : mOk y_M_qEndsPart prog_14_method_126_code 1 (Option.none : Option Jvm.ClassFile.FieldType) 0 false := ⟨in_9 (List.mem_of_getElem? (i := 211) rfl), in_1 (List.mem_of_getElem? (i := 13) rfl), ⟨by decide +kernel, by decide +kernel, by decide +kernel⟩, by decide +kernel, by decide, ⟨in_9 (List.mem_of_getElem? (i := 210) rfl), lw_pv (i := 134) (by decide +kernel)⟩⟩
def y_M_qPartTold : MethodName := ⟨"BreathTownModel", "qPartTold", "()V"⟩
theorem mk_M_qPartTold : mOk y_M_qPartTold prog_14_method_127_code 6 (Option.none : Option Jvm.ClassFile.FieldType) 0 false := ⟨in_9 (List.mem_of_getElem? (i := 195) rfl), in_1 (List.mem_of_getElem? (i := 13) rfl), ⟨by decide +kernel, by decide +kernel, by decide +kernel⟩, by decide +kernel, by decide, ⟨in_9 (List.mem_of_getElem? (i := 194) rfl), lw_pv (i := 130) (by decide +kernel)⟩⟩
def y_M_number : MethodName := ⟨"BreathTownModel", "number", "(II)I"⟩
theorem mk_M_number : mOk y_M_number prog_14_method_14_code 5 (Option.some Jvm.ClassFile.FieldType.int) 2 false := ⟨in_8 (List.mem_of_getElem? (i := 7) rfl), in_1 (List.mem_of_getElem? (i := 13) rfl), ⟨by decide +kernel, by decide +kernel, by decide +kernel⟩, by decide +kernel, by decide, ⟨in_8 (List.mem_of_getElem? (i := 6) rfl), lw_pv (i := 59) (by decide +kernel)⟩⟩
def y_M_isDigit : MethodName := ⟨"BreathTownModel", "isDigit", "(I)Z"⟩
theorem mk_M_isDigit : mOk y_M_isDigit prog_14_method_7_code 1 (Option.some Jvm.ClassFile.FieldType.boolean) 1 true := ⟨in_8 (List.mem_of_getElem? (i := 10) rfl), in_1 (List.mem_of_getElem? (i := 13) rfl), ⟨by decide +kernel, by decide +kernel, by decide +kernel⟩, by decide +kernel, by decide, in_8 (List.mem_of_getElem? (i := 9) rfl)⟩
def y_M_qAsksWord : MethodName := ⟨"BreathTownModel", "qAsksWord", "(I)V"⟩
theorem mk_M_qAsksWord : mOk y_M_qAsksWord prog_14_method_125_code 2 (Option.none : Option Jvm.ClassFile.FieldType) 1 false := ⟨in_9 (List.mem_of_getElem? (i := 207) rfl), in_1 (List.mem_of_getElem? (i := 13) rfl), ⟨by decide +kernel, by decide +kernel, by decide +kernel⟩, by decide +kernel, by decide, ⟨in_9 (List.mem_of_getElem? (i := 206) rfl), lw_pv (i := 133) (by decide +kernel)⟩⟩
def y_M_asks : MethodName := ⟨"BreathTownModel", "asks", "([C)V"⟩
theorem mk_M_asks : mOk y_M_asks prog_14_method_11_code 2 (Option.none : Option Jvm.ClassFile.FieldType) 1 false := ⟨in_7 (List.mem_of_getElem? (i := 239) rfl), in_1 (List.mem_of_getElem? (i := 13) rfl), ⟨by decide +kernel, by decide +kernel, by decide +kernel⟩, by decide +kernel, by decide, ⟨in_7 (List.mem_of_getElem? (i := 238) rfl), lw_pv (i := 57) (by decide +kernel)⟩⟩
def y_M_takes : MethodName := ⟨"BreathTownModel", "takes", "([C)Z"⟩
theorem mk_M_takes : mOk y_M_takes prog_14_method_10_code 2 (Option.some Jvm.ClassFile.FieldType.boolean) 1 false := ⟨in_7 (List.mem_of_getElem? (i := 198) rfl), in_1 (List.mem_of_getElem? (i := 13) rfl), ⟨by decide +kernel, by decide +kernel, by decide +kernel⟩, by decide +kernel, by decide, ⟨in_7 (List.mem_of_getElem? (i := 197) rfl), lw_pv (i := 48) (by decide +kernel)⟩⟩
def y_M_isHere : MethodName := ⟨"BreathTownModel", "isHere", "([C)Z"⟩
theorem mk_M_isHere : mOk y_M_isHere prog_14_method_9_code 4 (Option.some Jvm.ClassFile.FieldType.boolean) 1 false := ⟨in_7 (List.mem_of_getElem? (i := 202) rfl), in_1 (List.mem_of_getElem? (i := 13) rfl), ⟨by decide +kernel, by decide +kernel, by decide +kernel⟩, by decide +kernel, by decide, ⟨in_7 (List.mem_of_getElem? (i := 201) rfl), lw_pv (i := 49) (by decide +kernel)⟩⟩
def y_M_isLetter : MethodName := ⟨"BreathTownModel", "isLetter", "(I)Z"⟩
theorem mk_M_isLetter : mOk y_M_isLetter prog_14_method_6_code 1 (Option.some Jvm.ClassFile.FieldType.boolean) 1 true := ⟨in_7 (List.mem_of_getElem? (i := 205) rfl), in_1 (List.mem_of_getElem? (i := 13) rfl), ⟨by decide +kernel, by decide +kernel, by decide +kernel⟩, by decide +kernel, by decide, in_7 (List.mem_of_getElem? (i := 204) rfl)⟩
def y_M_qWordOf : MethodName := ⟨"BreathTownModel", "qWordOf", "(II)I"⟩
theorem mk_M_qWordOf : mOk y_M_qWordOf prog_14_method_124_code 4 (Option.some Jvm.ClassFile.FieldType.int) 2 false := ⟨in_9 (List.mem_of_getElem? (i := 199) rfl), in_1 (List.mem_of_getElem? (i := 13) rfl), ⟨by decide +kernel, by decide +kernel, by decide +kernel⟩, by decide +kernel, by decide, ⟨in_9 (List.mem_of_getElem? (i := 198) rfl), lw_pv (i := 131) (by decide +kernel)⟩⟩
def y_M_qWordHere : MethodName := ⟨"BreathTownModel", "qWordHere", "()I"⟩
theorem mk_M_qWordHere : mOk y_M_qWordHere prog_14_method_123_code 1 (Option.some Jvm.ClassFile.FieldType.int) 0 false := ⟨in_9 (List.mem_of_getElem? (i := 203) rfl), in_1 (List.mem_of_getElem? (i := 13) rfl), ⟨by decide +kernel, by decide +kernel, by decide +kernel⟩, by decide +kernel, by decide, ⟨in_9 (List.mem_of_getElem? (i := 202) rfl), lw_pv (i := 132) (by decide +kernel)⟩⟩
def y_M_qOpens : MethodName := ⟨"BreathTownModel", "qOpens", "(II)V"⟩
theorem mk_M_qOpens : mOk y_M_qOpens prog_14_method_117_code 3 (Option.none : Option Jvm.ClassFile.FieldType) 2 false := ⟨in_9 (List.mem_of_getElem? (i := 179) rfl), in_1 (List.mem_of_getElem? (i := 13) rfl), ⟨by decide +kernel, by decide +kernel, by decide +kernel⟩, by decide +kernel, by decide, ⟨in_9 (List.mem_of_getElem? (i := 178) rfl), lw_pv (i := 126) (by decide +kernel)⟩⟩
def y_M_qTest : MethodName := ⟨"BreathTownModel", "qTest", "()V"⟩
theorem mk_M_qTest : mOk y_M_qTest prog_14_method_133_code 3 (Option.none : Option Jvm.ClassFile.FieldType) 0 false := ⟨in_9 (List.mem_of_getElem? (i := 175) rfl), in_1 (List.mem_of_getElem? (i := 13) rfl), ⟨by decide +kernel, by decide +kernel, by decide +kernel⟩, by decide +kernel, by decide, ⟨in_9 (List.mem_of_getElem? (i := 174) rfl), lw_pv (i := 125) (by decide +kernel)⟩⟩
def y_M_qGoesOnTest : MethodName := ⟨"BreathTownModel", "qGoesOnTest", "()Z"⟩
theorem mk_M_qGoesOnTest : mOk y_M_qGoesOnTest prog_14_method_134_code 1 (Option.some Jvm.ClassFile.FieldType.boolean) 0 false := ⟨in_10 (List.mem_of_getElem? (i := 2) rfl), in_1 (List.mem_of_getElem? (i := 13) rfl), ⟨by decide +kernel, by decide +kernel, by decide +kernel⟩, by decide +kernel, by decide, ⟨in_10 (List.mem_of_getElem? (i := 1) rfl), lw_pv (i := 141) (by decide +kernel)⟩⟩
def y_M_qHasSquare : MethodName := ⟨"BreathTownModel", "qHasSquare", "()Z"⟩
theorem mk_M_qHasSquare : mOk y_M_qHasSquare prog_14_method_131_code 2 (Option.some Jvm.ClassFile.FieldType.boolean) 0 false := ⟨in_10 (List.mem_of_getElem? (i := 6) rfl), in_1 (List.mem_of_getElem? (i := 13) rfl), ⟨by decide +kernel, by decide +kernel, by decide +kernel⟩, by decide +kernel, by decide, ⟨in_10 (List.mem_of_getElem? (i := 5) rfl), lw_pv (i := 142) (by decide +kernel)⟩⟩
def y_M_qDropsNots : MethodName := ⟨"BreathTownModel", "qDropsNots", "()V"⟩
theorem mk_M_qDropsNots : mOk y_M_qDropsNots prog_14_method_132_code 1 (Option.none : Option Jvm.ClassFile.FieldType) 0 false := ⟨in_9 (List.mem_of_getElem? (i := 238) rfl), in_1 (List.mem_of_getElem? (i := 13) rfl), ⟨by decide +kernel, by decide +kernel, by decide +kernel⟩, by decide +kernel, by decide, ⟨in_9 (List.mem_of_getElem? (i := 237) rfl), lw_pv (i := 140) (by decide +kernel)⟩⟩
def y_M_qFact : MethodName := ⟨"BreathTownModel", "qFact", "()V"⟩
theorem mk_M_qFact : mOk y_M_qFact prog_14_method_130_code 2 (Option.none : Option Jvm.ClassFile.FieldType) 0 false := ⟨in_9 (List.mem_of_getElem? (i := 183) rfl), in_1 (List.mem_of_getElem? (i := 13) rfl), ⟨by decide +kernel, by decide +kernel, by decide +kernel⟩, by decide +kernel, by decide, ⟨in_9 (List.mem_of_getElem? (i := 182) rfl), lw_pv (i := 127) (by decide +kernel)⟩⟩
def y_M_qKind : MethodName := ⟨"BreathTownModel", "qKind", "()I"⟩
theorem mk_M_qKind : mOk y_M_qKind prog_14_method_142_code 2 (Option.some Jvm.ClassFile.FieldType.int) 0 false := ⟨in_9 (List.mem_of_getElem? (i := 171) rfl), in_1 (List.mem_of_getElem? (i := 13) rfl), ⟨by decide +kernel, by decide +kernel, by decide +kernel⟩, by decide +kernel, by decide, ⟨in_9 (List.mem_of_getElem? (i := 170) rfl), lw_pv (i := 124) (by decide +kernel)⟩⟩
def y_BT_ask : MethodName := ⟨"BreathTown", "ask", "()J"⟩
theorem mk_BT_ask : mOk y_BT_ask prog_1_method_31_code 2 (Option.some Jvm.ClassFile.FieldType.long) 0 false := ⟨in_5 (List.mem_of_getElem? (i := 223) rfl), in_1 (List.mem_of_getElem? (i := 1) rfl), ⟨by decide +kernel, by decide +kernel, by decide +kernel⟩, by decide +kernel, by decide, ⟨in_5 (List.mem_of_getElem? (i := 221) rfl), in_5 (List.mem_of_getElem? (i := 222) rfl)⟩⟩
def y_Quest_answer : MethodName := ⟨"BreathTown$Question", "answer", "(I)J"⟩
theorem mk_Quest_answer : mOk y_Quest_answer prog_5_method_5_code 10 (Option.some Jvm.ClassFile.FieldType.long) 1 false := ⟨in_6 (List.mem_of_getElem? (i := 52) rfl), in_1 (List.mem_of_getElem? (i := 12) rfl), ⟨by decide +kernel, by decide +kernel, by decide +kernel⟩, by decide +kernel, by decide, ⟨in_6 (List.mem_of_getElem? (i := 50) rfl), in_6 (List.mem_of_getElem? (i := 51) rfl)⟩⟩
def y_Math_min : MethodName := ⟨"java/lang/Math", "min", "(II)I"⟩
theorem mk_Math_min : mOk y_Math_min prog_15_method_69_code 2 (Option.some Jvm.ClassFile.FieldType.int) 2 true := ⟨in_4 (List.mem_of_getElem? (i := 227) rfl), in_1 (List.mem_of_getElem? (i := 18) rfl), ⟨by decide +kernel, by decide +kernel, by decide +kernel⟩, by decide +kernel, by decide, in_4 (List.mem_of_getElem? (i := 226) rfl)⟩
def y_Math_max : MethodName := ⟨"java/lang/Math", "max", "(II)I"⟩
theorem mk_Math_max : mOk y_Math_max prog_15_method_65_code 2 (Option.some Jvm.ClassFile.FieldType.int) 2 true := ⟨in_4 (List.mem_of_getElem? (i := 208) rfl), in_1 (List.mem_of_getElem? (i := 18) rfl), ⟨by decide +kernel, by decide +kernel, by decide +kernel⟩, by decide +kernel, by decide, in_4 (List.mem_of_getElem? (i := 207) rfl)⟩
def y_Quest_workOut : MethodName := ⟨"BreathTown$Question", "workOut", "()V"⟩
theorem mk_Quest_workOut : mOk y_Quest_workOut prog_5_method_4_code 2 (Option.none : Option Jvm.ClassFile.FieldType) 0 false := ⟨in_6 (List.mem_of_getElem? (i := 28) rfl), in_1 (List.mem_of_getElem? (i := 12) rfl), ⟨by decide +kernel, by decide +kernel, by decide +kernel⟩, by decide +kernel, by decide, ⟨in_6 (List.mem_of_getElem? (i := 26) rfl), in_6 (List.mem_of_getElem? (i := 27) rfl)⟩⟩
def y_Code_value : MethodName := ⟨"BreathTown$Code", "value", "(IIIII)I"⟩
theorem mk_Code_value : mOk y_Code_value prog_2_method_6_code 12 (Option.some Jvm.ClassFile.FieldType.int) 5 false := ⟨in_4 (List.mem_of_getElem? (i := 121) rfl), in_1 (List.mem_of_getElem? (i := 4) rfl), ⟨by decide +kernel, by decide +kernel, by decide +kernel⟩, by decide +kernel, by decide, ⟨in_4 (List.mem_of_getElem? (i := 119) rfl), in_4 (List.mem_of_getElem? (i := 120) rfl)⟩⟩
def y_Code_plain : MethodName := ⟨"BreathTown$Code", "plain", "(IIII)I"⟩
theorem mk_Code_plain : mOk y_Code_plain prog_2_method_7_code 4 (Option.some Jvm.ClassFile.FieldType.int) 4 true := ⟨in_4 (List.mem_of_getElem? (i := 132) rfl), in_1 (List.mem_of_getElem? (i := 4) rfl), ⟨by decide +kernel, by decide +kernel, by decide +kernel⟩, by decide +kernel, by decide, in_4 (List.mem_of_getElem? (i := 131) rfl)⟩
def y_Code_combined : MethodName := ⟨"BreathTown$Code", "combined", "(III)J"⟩
theorem mk_Code_combined : mOk y_Code_combined prog_2_method_8_code 3 (Option.some Jvm.ClassFile.FieldType.long) 3 true := ⟨in_4 (List.mem_of_getElem? (i := 124) rfl), in_1 (List.mem_of_getElem? (i := 4) rfl), ⟨by decide +kernel, by decide +kernel, by decide +kernel⟩, by decide +kernel, by decide, in_4 (List.mem_of_getElem? (i := 123) rfl)⟩
def y_Math_floorDiv : MethodName := ⟨"java/lang/Math", "floorDiv", "(II)I"⟩
theorem mk_Math_floorDiv : mOk y_Math_floorDiv prog_15_method_47_code 3 (Option.some Jvm.ClassFile.FieldType.int) 2 true := ⟨in_4 (List.mem_of_getElem? (i := 127) rfl), in_1 (List.mem_of_getElem? (i := 18) rfl), ⟨by decide +kernel, by decide +kernel, by decide +kernel⟩, by decide +kernel, by decide, in_4 (List.mem_of_getElem? (i := 126) rfl)⟩
def y_Quest_fillTables : MethodName := ⟨"BreathTown$Question", "fillTables", "(I)V"⟩
theorem mk_Quest_fillTables : mOk y_Quest_fillTables prog_5_method_6_code 3 (Option.none : Option Jvm.ClassFile.FieldType) 1 false := ⟨in_6 (List.mem_of_getElem? (i := 32) rfl), in_1 (List.mem_of_getElem? (i := 12) rfl), ⟨by decide +kernel, by decide +kernel, by decide +kernel⟩, by decide +kernel, by decide, ⟨in_6 (List.mem_of_getElem? (i := 31) rfl), lw_pv (i := 40) (by decide +kernel)⟩⟩
def y_Quest_passed : MethodName := ⟨"BreathTown$Question", "passed", "(II)I"⟩
theorem mk_Quest_passed : mOk y_Quest_passed prog_5_method_7_code 5 (Option.some Jvm.ClassFile.FieldType.int) 2 false := ⟨in_6 (List.mem_of_getElem? (i := 45) rfl), in_1 (List.mem_of_getElem? (i := 12) rfl), ⟨by decide +kernel, by decide +kernel, by decide +kernel⟩, by decide +kernel, by decide, ⟨in_6 (List.mem_of_getElem? (i := 44) rfl), lw_pv (i := 41) (by decide +kernel)⟩⟩
def y_Ways_firstPass : MethodName := ⟨"BreathTown$Ways", "firstPass", "(IIII)I"⟩
theorem mk_Ways_firstPass : mOk y_Ways_firstPass prog_11_method_2_code 10 (Option.some Jvm.ClassFile.FieldType.int) 4 false := ⟨in_4 (List.mem_of_getElem? (i := 155) rfl), in_1 (List.mem_of_getElem? (i := 9) rfl), ⟨by decide +kernel, by decide +kernel, by decide +kernel⟩, by decide +kernel, by decide, ⟨in_4 (List.mem_of_getElem? (i := 153) rfl), in_4 (List.mem_of_getElem? (i := 154) rfl)⟩⟩
def y_Widths_widthBy : MethodName := ⟨"BreathTown$Widths", "widthBy", "(III)I"⟩
theorem mk_Widths_widthBy : mOk y_Widths_widthBy prog_12_method_6_code 9 (Option.some Jvm.ClassFile.FieldType.int) 3 false := ⟨in_4 (List.mem_of_getElem? (i := 116) rfl), in_1 (List.mem_of_getElem? (i := 8) rfl), ⟨by decide +kernel, by decide +kernel, by decide +kernel⟩, by decide +kernel, by decide, ⟨in_4 (List.mem_of_getElem? (i := 114) rfl), in_4 (List.mem_of_getElem? (i := 115) rfl)⟩⟩
def y_Widths_tideBy : MethodName := ⟨"BreathTown$Widths", "tideBy", "(III)I"⟩
theorem mk_Widths_tideBy : mOk y_Widths_tideBy prog_12_method_3_code 5 (Option.some Jvm.ClassFile.FieldType.int) 3 false := ⟨in_4 (List.mem_of_getElem? (i := 105) rfl), in_1 (List.mem_of_getElem? (i := 8) rfl), ⟨by decide +kernel, by decide +kernel, by decide +kernel⟩, by decide +kernel, by decide, ⟨in_4 (List.mem_of_getElem? (i := 103) rfl), in_4 (List.mem_of_getElem? (i := 104) rfl)⟩⟩
def y_Math_floorMod : MethodName := ⟨"java/lang/Math", "floorMod", "(II)I"⟩
theorem mk_Math_floorMod : mOk y_Math_floorMod prog_15_method_50_code 3 (Option.some Jvm.ClassFile.FieldType.int) 2 true := ⟨in_4 (List.mem_of_getElem? (i := 108) rfl), in_1 (List.mem_of_getElem? (i := 18) rfl), ⟨by decide +kernel, by decide +kernel, by decide +kernel⟩, by decide +kernel, by decide, in_4 (List.mem_of_getElem? (i := 107) rfl)⟩
def y_Ways_load : MethodName := ⟨"BreathTown$Ways", "load", "(II)I"⟩
theorem mk_Ways_load : mOk y_Ways_load prog_11_method_4_code 6 (Option.some Jvm.ClassFile.FieldType.int) 2 false := ⟨in_4 (List.mem_of_getElem? (i := 160) rfl), in_1 (List.mem_of_getElem? (i := 9) rfl), ⟨by decide +kernel, by decide +kernel, by decide +kernel⟩, by decide +kernel, by decide, ⟨in_4 (List.mem_of_getElem? (i := 159) rfl), lw_pv (i := 15) (by decide +kernel)⟩⟩
def y_Code_uses : MethodName := ⟨"BreathTown$Code", "uses", "(I)Z"⟩
theorem mk_Code_uses : mOk y_Code_uses prog_2_method_4_code 2 (Option.some Jvm.ClassFile.FieldType.boolean) 1 false := ⟨in_6 (List.mem_of_getElem? (i := 37) rfl), in_1 (List.mem_of_getElem? (i := 4) rfl), ⟨by decide +kernel, by decide +kernel, by decide +kernel⟩, by decide +kernel, by decide, ⟨in_6 (List.mem_of_getElem? (i := 35) rfl), in_6 (List.mem_of_getElem? (i := 36) rfl)⟩⟩
def y_Widths_tideAt : MethodName := ⟨"BreathTown$Widths", "tideAt", "(II)I"⟩
theorem mk_Widths_tideAt : mOk y_Widths_tideAt prog_12_method_4_code 3 (Option.some Jvm.ClassFile.FieldType.int) 2 false := ⟨in_4 (List.mem_of_getElem? (i := 100) rfl), in_1 (List.mem_of_getElem? (i := 8) rfl), ⟨by decide +kernel, by decide +kernel, by decide +kernel⟩, by decide +kernel, by decide, ⟨in_4 (List.mem_of_getElem? (i := 98) rfl), in_4 (List.mem_of_getElem? (i := 99) rfl)⟩⟩
def y_Widths_widthAt : MethodName := ⟨"BreathTown$Widths", "widthAt", "(II)I"⟩
theorem mk_Widths_widthAt : mOk y_Widths_widthAt prog_12_method_5_code 3 (Option.some Jvm.ClassFile.FieldType.int) 2 false := ⟨in_4 (List.mem_of_getElem? (i := 112) rfl), in_1 (List.mem_of_getElem? (i := 8) rfl), ⟨by decide +kernel, by decide +kernel, by decide +kernel⟩, by decide +kernel, by decide, ⟨in_4 (List.mem_of_getElem? (i := 110) rfl), in_4 (List.mem_of_getElem? (i := 111) rfl)⟩⟩
def y_BT_fill : MethodName := ⟨"BreathTown", "fill", "([II)V"⟩
theorem mk_BT_fill : mOk y_BT_fill prog_1_method_44_code 3 (Option.none : Option Jvm.ClassFile.FieldType) 2 true := ⟨in_3 (List.mem_of_getElem? (i := 53) rfl), in_1 (List.mem_of_getElem? (i := 1) rfl), ⟨by decide +kernel, by decide +kernel, by decide +kernel⟩, by decide +kernel, by decide, in_3 (List.mem_of_getElem? (i := 52) rfl)⟩
def y_BT_keepFault : MethodName := ⟨"BreathTown", "keepFault", "()V"⟩
theorem mk_BT_keepFault : mOk y_BT_keepFault prog_1_method_37_code 1 (Option.none : Option Jvm.ClassFile.FieldType) 0 false := ⟨in_4 (List.mem_of_getElem? (i := 45) rfl), in_1 (List.mem_of_getElem? (i := 1) rfl), ⟨by decide +kernel, by decide +kernel, by decide +kernel⟩, by decide +kernel, by decide, ⟨in_4 (List.mem_of_getElem? (i := 44) rfl), lw_pv (i := 14) (by decide +kernel)⟩⟩
def y_Quest_read : MethodName := ⟨"BreathTown$Question", "read", "()I"⟩
theorem mk_Quest_read : mOk y_Quest_read prog_5_method_2_code 3 (Option.some Jvm.ClassFile.FieldType.int) 0 false := ⟨in_5 (List.mem_of_getElem? (i := 227) rfl), in_1 (List.mem_of_getElem? (i := 12) rfl), ⟨by decide +kernel, by decide +kernel, by decide +kernel⟩, by decide +kernel, by decide, ⟨in_5 (List.mem_of_getElem? (i := 225) rfl), in_5 (List.mem_of_getElem? (i := 226) rfl)⟩⟩
def y_Scan_unexpected : MethodName := ⟨"BreathTown$Scan", "unexpected", "()Z"⟩
theorem mk_Scan_unexpected : mOk y_Scan_unexpected prog_7_method_9_code 1 (Option.some Jvm.ClassFile.FieldType.boolean) 0 false := ⟨in_3 (List.mem_of_getElem? (i := 151) rfl), in_1 (List.mem_of_getElem? (i := 2) rfl), ⟨by decide +kernel, by decide +kernel, by decide +kernel⟩, by decide +kernel, by decide, ⟨in_3 (List.mem_of_getElem? (i := 149) rfl), in_3 (List.mem_of_getElem? (i := 150) rfl)⟩⟩
def y_Scan_fail : MethodName := ⟨"BreathTown$Scan", "fail", "(II)Z"⟩
theorem mk_Scan_fail : mOk y_Scan_fail prog_7_method_8_code 3 (Option.some Jvm.ClassFile.FieldType.boolean) 2 false := ⟨in_3 (List.mem_of_getElem? (i := 69) rfl), in_1 (List.mem_of_getElem? (i := 2) rfl), ⟨by decide +kernel, by decide +kernel, by decide +kernel⟩, by decide +kernel, by decide, ⟨in_3 (List.mem_of_getElem? (i := 67) rfl), in_3 (List.mem_of_getElem? (i := 68) rfl)⟩⟩
def y_Scan_skip : MethodName := ⟨"BreathTown$Scan", "skip", "()V"⟩
theorem mk_Scan_skip : mOk y_Scan_skip prog_7_method_7_code 2 (Option.none : Option Jvm.ClassFile.FieldType) 0 false := ⟨in_3 (List.mem_of_getElem? (i := 65) rfl), in_1 (List.mem_of_getElem? (i := 2) rfl), ⟨by decide +kernel, by decide +kernel, by decide +kernel⟩, by decide +kernel, by decide, ⟨in_3 (List.mem_of_getElem? (i := 63) rfl), in_3 (List.mem_of_getElem? (i := 64) rfl)⟩⟩
def y_Scan_atEnd : MethodName := ⟨"BreathTown$Scan", "atEnd", "()Z"⟩
theorem mk_Scan_atEnd : mOk y_Scan_atEnd prog_7_method_10_code 1 (Option.some Jvm.ClassFile.FieldType.boolean) 0 false := ⟨in_3 (List.mem_of_getElem? (i := 61) rfl), in_1 (List.mem_of_getElem? (i := 2) rfl), ⟨by decide +kernel, by decide +kernel, by decide +kernel⟩, by decide +kernel, by decide, ⟨in_3 (List.mem_of_getElem? (i := 59) rfl), in_3 (List.mem_of_getElem? (i := 60) rfl)⟩⟩
def y_Reader_readSum : MethodName := ⟨"BreathTown$Reader", "readSum", "()Z"⟩
theorem mk_Reader_readSum : mOk y_Reader_readSum prog_6_method_2_code 1 (Option.some Jvm.ClassFile.FieldType.boolean) 0 false := ⟨in_3 (List.mem_of_getElem? (i := 208) rfl), in_1 (List.mem_of_getElem? (i := 6) rfl), ⟨by decide +kernel, by decide +kernel, by decide +kernel⟩, by decide +kernel, by decide, ⟨in_3 (List.mem_of_getElem? (i := 206) rfl), in_3 (List.mem_of_getElem? (i := 207) rfl)⟩⟩
def y_Reader_sum : MethodName := ⟨"BreathTown$Reader", "sum", "(I)Z"⟩
theorem mk_Reader_sum : mOk y_Reader_sum prog_6_method_6_code 4 (Option.some Jvm.ClassFile.FieldType.boolean) 1 false := ⟨in_3 (List.mem_of_getElem? (i := 212) rfl), in_1 (List.mem_of_getElem? (i := 6) rfl), ⟨by decide +kernel, by decide +kernel, by decide +kernel⟩, by decide +kernel, by decide, ⟨in_3 (List.mem_of_getElem? (i := 211) rfl), lw_pv (i := 5) (by decide +kernel)⟩⟩
def y_Code_add : MethodName := ⟨"BreathTown$Code", "add", "(I)V"⟩
theorem mk_Code_add : mOk y_Code_add prog_2_method_3_code 2 (Option.none : Option Jvm.ClassFile.FieldType) 1 false := ⟨in_3 (List.mem_of_getElem? (i := 230) rfl), in_1 (List.mem_of_getElem? (i := 4) rfl), ⟨by decide +kernel, by decide +kernel, by decide +kernel⟩, by decide +kernel, by decide, ⟨in_3 (List.mem_of_getElem? (i := 228) rfl), in_3 (List.mem_of_getElem? (i := 229) rfl)⟩⟩
def y_Reader_product : MethodName := ⟨"BreathTown$Reader", "product", "(I)Z"⟩
theorem mk_Reader_product : mOk y_Reader_product prog_6_method_7_code 4 (Option.some Jvm.ClassFile.FieldType.boolean) 1 false := ⟨in_3 (List.mem_of_getElem? (i := 216) rfl), in_1 (List.mem_of_getElem? (i := 6) rfl), ⟨by decide +kernel, by decide +kernel, by decide +kernel⟩, by decide +kernel, by decide, ⟨in_3 (List.mem_of_getElem? (i := 215) rfl), lw_pv (i := 6) (by decide +kernel)⟩⟩
def y_Reader_part : MethodName := ⟨"BreathTown$Reader", "part", "(I)Z"⟩
theorem mk_Reader_part : mOk y_Reader_part prog_6_method_8_code 3 (Option.some Jvm.ClassFile.FieldType.boolean) 1 false := ⟨in_3 (List.mem_of_getElem? (i := 220) rfl), in_1 (List.mem_of_getElem? (i := 6) rfl), ⟨by decide +kernel, by decide +kernel, by decide +kernel⟩, by decide +kernel, by decide, ⟨in_3 (List.mem_of_getElem? (i := 219) rfl), lw_pv (i := 7) (by decide +kernel)⟩⟩
def y_Reader_took : MethodName := ⟨"BreathTown$Reader", "took", "(I)Z"⟩
theorem mk_Reader_took : mOk y_Reader_took prog_6_method_5_code 2 (Option.some Jvm.ClassFile.FieldType.boolean) 1 false := ⟨in_3 (List.mem_of_getElem? (i := 226) rfl), in_1 (List.mem_of_getElem? (i := 6) rfl), ⟨by decide +kernel, by decide +kernel, by decide +kernel⟩, by decide +kernel, by decide, ⟨in_3 (List.mem_of_getElem? (i := 225) rfl), lw_pv (i := 8) (by decide +kernel)⟩⟩
def y_Scan_takeWord : MethodName := ⟨"BreathTown$Scan", "takeWord", "(Ljava/lang/String;)Z"⟩
theorem mk_Scan_takeWord : mOk y_Scan_takeWord prog_7_method_15_code 2 (Option.some Jvm.ClassFile.FieldType.boolean) 1 false := ⟨in_3 (List.mem_of_getElem? (i := 142) rfl), in_1 (List.mem_of_getElem? (i := 2) rfl), ⟨by decide +kernel, by decide +kernel, by decide +kernel⟩, by decide +kernel, by decide, ⟨in_3 (List.mem_of_getElem? (i := 140) rfl), in_3 (List.mem_of_getElem? (i := 141) rfl)⟩⟩
def y_Str_length : MethodName := ⟨"java/lang/String", "length", "()I"⟩
theorem mk_Str_length : mOk y_Str_length prog_16_method_54_code 1 (Option.some Jvm.ClassFile.FieldType.int) 0 false := ⟨in_3 (List.mem_of_getElem? (i := 78) rfl), in_1 (List.mem_of_getElem? (i := 14) rfl), ⟨by decide +kernel, by decide +kernel, by decide +kernel⟩, by decide +kernel, by decide, ⟨in_3 (List.mem_of_getElem? (i := 76) rfl), in_3 (List.mem_of_getElem? (i := 77) rfl)⟩⟩
def y_Str_coder : MethodName := ⟨"java/lang/String", "coder", "()B"⟩
theorem mk_Str_coder : mOk y_Str_coder prog_16_method_152_code 1 (Option.some Jvm.ClassFile.FieldType.byte) 0 false := ⟨in_3 (List.mem_of_getElem? (i := 82) rfl), in_1 (List.mem_of_getElem? (i := 14) rfl), ⟨by decide +kernel, by decide +kernel, by decide +kernel⟩, by decide +kernel, by decide, ⟨in_3 (List.mem_of_getElem? (i := 80) rfl), in_3 (List.mem_of_getElem? (i := 81) rfl)⟩⟩
def y_Scan_atWord : MethodName := ⟨"BreathTown$Scan", "atWord", "(Ljava/lang/String;)Z"⟩
theorem mk_Scan_atWord : mOk y_Scan_atWord prog_7_method_14_code 3 (Option.some Jvm.ClassFile.FieldType.boolean) 1 false := ⟨in_3 (List.mem_of_getElem? (i := 74) rfl), in_1 (List.mem_of_getElem? (i := 2) rfl), ⟨by decide +kernel, by decide +kernel, by decide +kernel⟩, by decide +kernel, by decide, ⟨in_3 (List.mem_of_getElem? (i := 72) rfl), in_3 (List.mem_of_getElem? (i := 73) rfl)⟩⟩
def y_Str_charAt : MethodName := ⟨"java/lang/String", "charAt", "(I)C"⟩
theorem mk_Str_charAt : mOk y_Str_charAt prog_16_method_56_code 2 (Option.some Jvm.ClassFile.FieldType.char) 1 false := ⟨in_3 (List.mem_of_getElem? (i := 95) rfl), in_1 (List.mem_of_getElem? (i := 14) rfl), ⟨by decide +kernel, by decide +kernel, by decide +kernel⟩, by decide +kernel, by decide, ⟨in_3 (List.mem_of_getElem? (i := 93) rfl), in_3 (List.mem_of_getElem? (i := 94) rfl)⟩⟩
def y_Lat_charAt : MethodName := ⟨"java/lang/StringLatin1", "charAt", "([BI)C"⟩
theorem mk_Lat_charAt : mOk y_Lat_charAt prog_17_method_2_code 2 (Option.some Jvm.ClassFile.FieldType.char) 2 true := ⟨in_3 (List.mem_of_getElem? (i := 102) rfl), in_1 (List.mem_of_getElem? (i := 15) rfl), ⟨by decide +kernel, by decide +kernel, by decide +kernel⟩, by decide +kernel, by decide, in_3 (List.mem_of_getElem? (i := 101) rfl)⟩
def y_Str_checkIndex : MethodName := ⟨"java/lang/String", "checkIndex", "(II)V"⟩
theorem mk_Str_checkIndex : mOk y_Str_checkIndex prog_16_method_155_code 2 (Option.none : Option Jvm.ClassFile.FieldType) 2 true := ⟨in_3 (List.mem_of_getElem? (i := 105) rfl), in_1 (List.mem_of_getElem? (i := 14) rfl), ⟨by decide +kernel, by decide +kernel, by decide +kernel⟩, by decide +kernel, by decide, in_3 (List.mem_of_getElem? (i := 104) rfl)⟩
def y_Prec_checkIndex : MethodName := ⟨"jdk/internal/util/Preconditions", "checkIndex", "(IILjava/util/function/BiFunction;)I"⟩
theorem mk_Prec_checkIndex : mOk y_Prec_checkIndex prog_19_method_11_code 3 (Option.some Jvm.ClassFile.FieldType.int) 3 true := ⟨in_3 (List.mem_of_getElem? (i := 110) rfl), in_1 (List.mem_of_getElem? (i := 16) rfl), ⟨by decide +kernel, by decide +kernel, by decide +kernel⟩, by decide +kernel, by decide, in_3 (List.mem_of_getElem? (i := 109) rfl)⟩
def y_Str_isLatin1 : MethodName := ⟨"java/lang/String", "isLatin1", "()Z"⟩
theorem mk_Str_isLatin1 : mOk y_Str_isLatin1 prog_16_method_154_code 1 (Option.some Jvm.ClassFile.FieldType.boolean) 0 false := ⟨in_3 (List.mem_of_getElem? (i := 99) rfl), in_1 (List.mem_of_getElem? (i := 14) rfl), ⟨by decide +kernel, by decide +kernel, by decide +kernel⟩, by decide +kernel, by decide, ⟨in_3 (List.mem_of_getElem? (i := 97) rfl), in_3 (List.mem_of_getElem? (i := 98) rfl)⟩⟩
def y_Scan_isLetter : MethodName := ⟨"BreathTown$Scan", "isLetter", "(I)Z"⟩
theorem mk_Scan_isLetter : mOk y_Scan_isLetter prog_7_method_5_code 1 (Option.some Jvm.ClassFile.FieldType.boolean) 1 true := ⟨in_3 (List.mem_of_getElem? (i := 91) rfl), in_1 (List.mem_of_getElem? (i := 2) rfl), ⟨by decide +kernel, by decide +kernel, by decide +kernel⟩, by decide +kernel, by decide, in_3 (List.mem_of_getElem? (i := 90) rfl)⟩
def y_Reader_askedPart : MethodName := ⟨"BreathTown$Reader", "askedPart", "(I)Z"⟩
theorem mk_Reader_askedPart : mOk y_Reader_askedPart prog_6_method_10_code 2 (Option.some Jvm.ClassFile.FieldType.boolean) 1 false := ⟨in_4 (List.mem_of_getElem? (i := 22) rfl), in_1 (List.mem_of_getElem? (i := 6) rfl), ⟨by decide +kernel, by decide +kernel, by decide +kernel⟩, by decide +kernel, by decide, ⟨in_4 (List.mem_of_getElem? (i := 21) rfl), lw_pv (i := 11) (by decide +kernel)⟩⟩
def y_Reader_mayOpen : MethodName := ⟨"BreathTown$Reader", "mayOpen", "(I)Z"⟩
theorem mk_Reader_mayOpen : mOk y_Reader_mayOpen prog_6_method_4_code 2 (Option.some Jvm.ClassFile.FieldType.boolean) 1 false := ⟨in_3 (List.mem_of_getElem? (i := 238) rfl), in_1 (List.mem_of_getElem? (i := 6) rfl), ⟨by decide +kernel, by decide +kernel, by decide +kernel⟩, by decide +kernel, by decide, ⟨in_3 (List.mem_of_getElem? (i := 237) rfl), lw_pv (i := 9) (by decide +kernel)⟩⟩
def y_Reader_pair : MethodName := ⟨"BreathTown$Reader", "pair", "(I)Z"⟩
theorem mk_Reader_pair : mOk y_Reader_pair prog_6_method_9_code 2 (Option.some Jvm.ClassFile.FieldType.boolean) 1 false := ⟨in_4 (List.mem_of_getElem? (i := 14) rfl), in_1 (List.mem_of_getElem? (i := 6) rfl), ⟨by decide +kernel, by decide +kernel, by decide +kernel⟩, by decide +kernel, by decide, ⟨in_4 (List.mem_of_getElem? (i := 13) rfl), lw_pv (i := 10) (by decide +kernel)⟩⟩
def y_Scan_needSign : MethodName := ⟨"BreathTown$Scan", "needSign", "(I)Z"⟩
theorem mk_Scan_needSign : mOk y_Scan_needSign prog_7_method_13_code 2 (Option.some Jvm.ClassFile.FieldType.boolean) 1 false := ⟨in_4 (List.mem_of_getElem? (i := 7) rfl), in_1 (List.mem_of_getElem? (i := 2) rfl), ⟨by decide +kernel, by decide +kernel, by decide +kernel⟩, by decide +kernel, by decide, ⟨in_4 (List.mem_of_getElem? (i := 5) rfl), in_4 (List.mem_of_getElem? (i := 6) rfl)⟩⟩
def y_Scan_takeSign : MethodName := ⟨"BreathTown$Scan", "takeSign", "(I)Z"⟩
theorem mk_Scan_takeSign : mOk y_Scan_takeSign prog_7_method_12_code 2 (Option.some Jvm.ClassFile.FieldType.boolean) 1 false := ⟨in_4 (List.mem_of_getElem? (i := 3) rfl), in_1 (List.mem_of_getElem? (i := 2) rfl), ⟨by decide +kernel, by decide +kernel, by decide +kernel⟩, by decide +kernel, by decide, ⟨in_4 (List.mem_of_getElem? (i := 1) rfl), in_4 (List.mem_of_getElem? (i := 2) rfl)⟩⟩
def y_Scan_atSign : MethodName := ⟨"BreathTown$Scan", "atSign", "(I)Z"⟩
theorem mk_Scan_atSign : mOk y_Scan_atSign prog_7_method_11_code 2 (Option.some Jvm.ClassFile.FieldType.boolean) 1 false := ⟨in_3 (List.mem_of_getElem? (i := 234) rfl), in_1 (List.mem_of_getElem? (i := 2) rfl), ⟨by decide +kernel, by decide +kernel, by decide +kernel⟩, by decide +kernel, by decide, ⟨in_3 (List.mem_of_getElem? (i := 232) rfl), in_3 (List.mem_of_getElem? (i := 233) rfl)⟩⟩
def y_Scan_number : MethodName := ⟨"BreathTown$Scan", "number", "(II)I"⟩
theorem mk_Scan_number : mOk y_Scan_number prog_7_method_17_code 5 (Option.some Jvm.ClassFile.FieldType.int) 2 false := ⟨in_3 (List.mem_of_getElem? (i := 194) rfl), in_1 (List.mem_of_getElem? (i := 2) rfl), ⟨by decide +kernel, by decide +kernel, by decide +kernel⟩, by decide +kernel, by decide, ⟨in_3 (List.mem_of_getElem? (i := 192) rfl), in_3 (List.mem_of_getElem? (i := 193) rfl)⟩⟩
def y_Scan_isDigit : MethodName := ⟨"BreathTown$Scan", "isDigit", "(I)Z"⟩
theorem mk_Scan_isDigit : mOk y_Scan_isDigit prog_7_method_6_code 1 (Option.some Jvm.ClassFile.FieldType.boolean) 1 true := ⟨in_3 (List.mem_of_getElem? (i := 201) rfl), in_1 (List.mem_of_getElem? (i := 2) rfl), ⟨by decide +kernel, by decide +kernel, by decide +kernel⟩, by decide +kernel, by decide, in_3 (List.mem_of_getElem? (i := 200) rfl)⟩
def y_Scan_atNumber : MethodName := ⟨"BreathTown$Scan", "atNumber", "()Z"⟩
theorem mk_Scan_atNumber : mOk y_Scan_atNumber prog_7_method_16_code 1 (Option.some Jvm.ClassFile.FieldType.boolean) 0 false := ⟨in_3 (List.mem_of_getElem? (i := 198) rfl), in_1 (List.mem_of_getElem? (i := 2) rfl), ⟨by decide +kernel, by decide +kernel, by decide +kernel⟩, by decide +kernel, by decide, ⟨in_3 (List.mem_of_getElem? (i := 196) rfl), in_3 (List.mem_of_getElem? (i := 197) rfl)⟩⟩
def y_Reader_readTest : MethodName := ⟨"BreathTown$Reader", "readTest", "()Z"⟩
theorem mk_Reader_readTest : mOk y_Reader_readTest prog_6_method_3_code 1 (Option.some Jvm.ClassFile.FieldType.boolean) 0 false := ⟨in_6 (List.mem_of_getElem? (i := 5) rfl), in_1 (List.mem_of_getElem? (i := 6) rfl), ⟨by decide +kernel, by decide +kernel, by decide +kernel⟩, by decide +kernel, by decide, ⟨in_6 (List.mem_of_getElem? (i := 3) rfl), in_6 (List.mem_of_getElem? (i := 4) rfl)⟩⟩
def y_Reader_test : MethodName := ⟨"BreathTown$Reader", "test", "(I)Z"⟩
theorem mk_Reader_test : mOk y_Reader_test prog_6_method_11_code 3 (Option.some Jvm.ClassFile.FieldType.boolean) 1 false := ⟨in_6 (List.mem_of_getElem? (i := 9) rfl), in_1 (List.mem_of_getElem? (i := 6) rfl), ⟨by decide +kernel, by decide +kernel, by decide +kernel⟩, by decide +kernel, by decide, ⟨in_6 (List.mem_of_getElem? (i := 8) rfl), lw_pv (i := 37) (by decide +kernel)⟩⟩
def y_Reader_both : MethodName := ⟨"BreathTown$Reader", "both", "(I)Z"⟩
theorem mk_Reader_both : mOk y_Reader_both prog_6_method_12_code 3 (Option.some Jvm.ClassFile.FieldType.boolean) 1 false := ⟨in_6 (List.mem_of_getElem? (i := 13) rfl), in_1 (List.mem_of_getElem? (i := 6) rfl), ⟨by decide +kernel, by decide +kernel, by decide +kernel⟩, by decide +kernel, by decide, ⟨in_6 (List.mem_of_getElem? (i := 12) rfl), lw_pv (i := 38) (by decide +kernel)⟩⟩
def y_Reader_fact : MethodName := ⟨"BreathTown$Reader", "fact", "(I)Z"⟩
theorem mk_Reader_fact : mOk y_Reader_fact prog_6_method_13_code 3 (Option.some Jvm.ClassFile.FieldType.boolean) 1 false := ⟨in_6 (List.mem_of_getElem? (i := 17) rfl), in_1 (List.mem_of_getElem? (i := 6) rfl), ⟨by decide +kernel, by decide +kernel, by decide +kernel⟩, by decide +kernel, by decide, ⟨in_6 (List.mem_of_getElem? (i := 16) rfl), lw_pv (i := 39) (by decide +kernel)⟩⟩
def y_Quest_head : MethodName := ⟨"BreathTown$Question", "head", "()I"⟩
theorem mk_Quest_head : mOk y_Quest_head prog_5_method_3_code 1 (Option.some Jvm.ClassFile.FieldType.int) 0 false := ⟨in_5 (List.mem_of_getElem? (i := 233) rfl), in_1 (List.mem_of_getElem? (i := 12) rfl), ⟨by decide +kernel, by decide +kernel, by decide +kernel⟩, by decide +kernel, by decide, ⟨in_5 (List.mem_of_getElem? (i := 232) rfl), lw_pv (i := 36) (by decide +kernel)⟩⟩
def y_Code_clear : MethodName := ⟨"BreathTown$Code", "clear", "()V"⟩
theorem mk_Code_clear : mOk y_Code_clear prog_2_method_2_code 1 (Option.none : Option Jvm.ClassFile.FieldType) 0 false := ⟨in_3 (List.mem_of_getElem? (i := 57) rfl), in_1 (List.mem_of_getElem? (i := 4) rfl), ⟨by decide +kernel, by decide +kernel, by decide +kernel⟩, by decide +kernel, by decide, ⟨in_3 (List.mem_of_getElem? (i := 55) rfl), in_3 (List.mem_of_getElem? (i := 56) rfl)⟩⟩
def y_Scan_start : MethodName := ⟨"BreathTown$Scan", "start", "()V"⟩
theorem mk_Scan_start : mOk y_Scan_start prog_7_method_3_code 1 (Option.none : Option Jvm.ClassFile.FieldType) 0 false := ⟨in_3 (List.mem_of_getElem? (i := 46) rfl), in_1 (List.mem_of_getElem? (i := 2) rfl), ⟨by decide +kernel, by decide +kernel, by decide +kernel⟩, by decide +kernel, by decide, ⟨in_3 (List.mem_of_getElem? (i := 44) rfl), in_3 (List.mem_of_getElem? (i := 45) rfl)⟩⟩
def y_M_telling : MethodName := ⟨"BreathTownModel", "telling", "(II)I"⟩
theorem mk_M_telling : mOk y_M_telling prog_14_method_115_code 8 (Option.some Jvm.ClassFile.FieldType.int) 2 false := ⟨in_9 (List.mem_of_getElem? (i := 159) rfl), in_1 (List.mem_of_getElem? (i := 13) rfl), ⟨by decide +kernel, by decide +kernel, by decide +kernel⟩, by decide +kernel, by decide, ⟨in_9 (List.mem_of_getElem? (i := 157) rfl), in_9 (List.mem_of_getElem? (i := 158) rfl)⟩⟩
def y_M_alikeIn : MethodName := ⟨"BreathTownModel", "alikeIn", "(II)I"⟩
theorem mk_M_alikeIn : mOk y_M_alikeIn prog_14_method_114_code 6 (Option.some Jvm.ClassFile.FieldType.int) 2 false := ⟨in_9 (List.mem_of_getElem? (i := 163) rfl), in_1 (List.mem_of_getElem? (i := 13) rfl), ⟨by decide +kernel, by decide +kernel, by decide +kernel⟩, by decide +kernel, by decide, ⟨in_9 (List.mem_of_getElem? (i := 162) rfl), lw_pv (i := 123) (by decide +kernel)⟩⟩
def y_M_isShift : MethodName := ⟨"BreathTownModel", "isShift", "(II)Z"⟩
theorem mk_M_isShift : mOk y_M_isShift prog_14_method_112_code 4 (Option.some Jvm.ClassFile.FieldType.boolean) 2 false := ⟨in_9 (List.mem_of_getElem? (i := 155) rfl), in_1 (List.mem_of_getElem? (i := 13) rfl), ⟨by decide +kernel, by decide +kernel, by decide +kernel⟩, by decide +kernel, by decide, ⟨in_9 (List.mem_of_getElem? (i := 154) rfl), lw_pv (i := 122) (by decide +kernel)⟩⟩
def y_M_isStreet : MethodName := ⟨"BreathTownModel", "isStreet", "(I)Z"⟩
theorem mk_M_isStreet : mOk y_M_isStreet prog_14_method_47_code 2 (Option.some Jvm.ClassFile.FieldType.boolean) 1 false := ⟨in_8 (List.mem_of_getElem? (i := 107) rfl), in_1 (List.mem_of_getElem? (i := 13) rfl), ⟨by decide +kernel, by decide +kernel, by decide +kernel⟩, by decide +kernel, by decide, ⟨in_8 (List.mem_of_getElem? (i := 106) rfl), lw_pv (i := 78) (by decide +kernel)⟩⟩
def y_BT_telling : MethodName := ⟨"BreathTown", "telling", "(II)I"⟩
theorem mk_BT_telling : mOk y_BT_telling prog_1_method_30_code 3 (Option.some Jvm.ClassFile.FieldType.int) 2 false := ⟨in_5 (List.mem_of_getElem? (i := 207) rfl), in_1 (List.mem_of_getElem? (i := 1) rfl), ⟨by decide +kernel, by decide +kernel, by decide +kernel⟩, by decide +kernel, by decide, ⟨in_5 (List.mem_of_getElem? (i := 205) rfl), in_5 (List.mem_of_getElem? (i := 206) rfl)⟩⟩
def y_Seen_tellingHour : MethodName := ⟨"BreathTown$Seen", "tellingHour", "(II)I"⟩
theorem mk_Seen_tellingHour : mOk y_Seen_tellingHour prog_8_method_5_code 8 (Option.some Jvm.ClassFile.FieldType.int) 2 false := ⟨in_5 (List.mem_of_getElem? (i := 211) rfl), in_1 (List.mem_of_getElem? (i := 11) rfl), ⟨by decide +kernel, by decide +kernel, by decide +kernel⟩, by decide +kernel, by decide, ⟨in_5 (List.mem_of_getElem? (i := 209) rfl), in_5 (List.mem_of_getElem? (i := 210) rfl)⟩⟩
def y_Seen_mostAlike : MethodName := ⟨"BreathTown$Seen", "mostAlike", "(III)I"⟩
theorem mk_Seen_mostAlike : mOk y_Seen_mostAlike prog_8_method_6_code 7 (Option.some Jvm.ClassFile.FieldType.int) 3 false := ⟨in_5 (List.mem_of_getElem? (i := 217) rfl), in_1 (List.mem_of_getElem? (i := 11) rfl), ⟨by decide +kernel, by decide +kernel, by decide +kernel⟩, by decide +kernel, by decide, ⟨in_5 (List.mem_of_getElem? (i := 216) rfl), lw_pv (i := 35) (by decide +kernel)⟩⟩
def y_Seen_findShifts : MethodName := ⟨"BreathTown$Seen", "findShifts", "(I)I"⟩
theorem mk_Seen_findShifts : mOk y_Seen_findShifts prog_8_method_3_code 4 (Option.some Jvm.ClassFile.FieldType.int) 1 false := ⟨in_5 (List.mem_of_getElem? (i := 197) rfl), in_1 (List.mem_of_getElem? (i := 11) rfl), ⟨by decide +kernel, by decide +kernel, by decide +kernel⟩, by decide +kernel, by decide, ⟨in_5 (List.mem_of_getElem? (i := 195) rfl), in_5 (List.mem_of_getElem? (i := 196) rfl)⟩⟩
def y_Seen_fits : MethodName := ⟨"BreathTown$Seen", "fits", "(II)Z"⟩
theorem mk_Seen_fits : mOk y_Seen_fits prog_8_method_4_code 4 (Option.some Jvm.ClassFile.FieldType.boolean) 2 false := ⟨in_5 (List.mem_of_getElem? (i := 202) rfl), in_1 (List.mem_of_getElem? (i := 11) rfl), ⟨by decide +kernel, by decide +kernel, by decide +kernel⟩, by decide +kernel, by decide, ⟨in_5 (List.mem_of_getElem? (i := 201) rfl), lw_pv (i := 34) (by decide +kernel)⟩⟩
def y_Told_hasA : MethodName := ⟨"BreathTown$Told", "hasA", "(II)Z"⟩
theorem mk_Told_hasA : mOk y_Told_hasA prog_9_method_5_code 3 (Option.some Jvm.ClassFile.FieldType.boolean) 2 false := ⟨in_4 (List.mem_of_getElem? (i := 92) rfl), in_1 (List.mem_of_getElem? (i := 3) rfl), ⟨by decide +kernel, by decide +kernel, by decide +kernel⟩, by decide +kernel, by decide, ⟨in_4 (List.mem_of_getElem? (i := 90) rfl), in_4 (List.mem_of_getElem? (i := 91) rfl)⟩⟩
def y_M_shifts : MethodName := ⟨"BreathTownModel", "shifts", "(II)I"⟩
theorem mk_M_shifts : mOk y_M_shifts prog_14_method_113_code 5 (Option.some Jvm.ClassFile.FieldType.int) 2 false := ⟨in_9 (List.mem_of_getElem? (i := 151) rfl), in_1 (List.mem_of_getElem? (i := 13) rfl), ⟨by decide +kernel, by decide +kernel, by decide +kernel⟩, by decide +kernel, by decide, ⟨in_9 (List.mem_of_getElem? (i := 149) rfl), in_9 (List.mem_of_getElem? (i := 150) rfl)⟩⟩
def y_BT_shifts : MethodName := ⟨"BreathTown", "shifts", "(II)I"⟩
theorem mk_BT_shifts : mOk y_BT_shifts prog_1_method_29_code 4 (Option.some Jvm.ClassFile.FieldType.int) 2 false := ⟨in_5 (List.mem_of_getElem? (i := 193) rfl), in_1 (List.mem_of_getElem? (i := 1) rfl), ⟨by decide +kernel, by decide +kernel, by decide +kernel⟩, by decide +kernel, by decide, ⟨in_5 (List.mem_of_getElem? (i := 191) rfl), in_5 (List.mem_of_getElem? (i := 192) rfl)⟩⟩
def y_M_see : MethodName := ⟨"BreathTownModel", "see", "()I"⟩
theorem mk_M_see : mOk y_M_see prog_14_method_111_code 3 (Option.some Jvm.ClassFile.FieldType.int) 0 false := ⟨in_9 (List.mem_of_getElem? (i := 143) rfl), in_1 (List.mem_of_getElem? (i := 13) rfl), ⟨by decide +kernel, by decide +kernel, by decide +kernel⟩, by decide +kernel, by decide, ⟨in_9 (List.mem_of_getElem? (i := 141) rfl), in_9 (List.mem_of_getElem? (i := 142) rfl)⟩⟩
def y_M_areRows : MethodName := ⟨"BreathTownModel", "areRows", "(I)Z"⟩
theorem mk_M_areRows : mOk y_M_areRows prog_14_method_110_code 3 (Option.some Jvm.ClassFile.FieldType.boolean) 1 false := ⟨in_9 (List.mem_of_getElem? (i := 147) rfl), in_1 (List.mem_of_getElem? (i := 13) rfl), ⟨by decide +kernel, by decide +kernel, by decide +kernel⟩, by decide +kernel, by decide, ⟨in_9 (List.mem_of_getElem? (i := 146) rfl), lw_pv (i := 121) (by decide +kernel)⟩⟩
def y_BT_see : MethodName := ⟨"BreathTown", "see", "()I"⟩
theorem mk_BT_see : mOk y_BT_see prog_1_method_28_code 2 (Option.some Jvm.ClassFile.FieldType.int) 0 false := ⟨in_5 (List.mem_of_getElem? (i := 182) rfl), in_1 (List.mem_of_getElem? (i := 1) rfl), ⟨by decide +kernel, by decide +kernel, by decide +kernel⟩, by decide +kernel, by decide, ⟨in_5 (List.mem_of_getElem? (i := 180) rfl), in_5 (List.mem_of_getElem? (i := 181) rfl)⟩⟩
def y_Seen_take : MethodName := ⟨"BreathTown$Seen", "take", "(LBreathTown$Scan;)Z"⟩
theorem mk_Seen_take : mOk y_Seen_take prog_8_method_2_code 4 (Option.some Jvm.ClassFile.FieldType.boolean) 1 false := ⟨in_5 (List.mem_of_getElem? (i := 186) rfl), in_1 (List.mem_of_getElem? (i := 11) rfl), ⟨by decide +kernel, by decide +kernel, by decide +kernel⟩, by decide +kernel, by decide, ⟨in_5 (List.mem_of_getElem? (i := 184) rfl), in_5 (List.mem_of_getElem? (i := 185) rfl)⟩⟩
def y_M_seed : MethodName := ⟨"BreathTownModel", "seed", "(I)Z"⟩
theorem mk_M_seed : mOk y_M_seed prog_14_method_107_code 2 (Option.some Jvm.ClassFile.FieldType.boolean) 1 false := ⟨in_9 (List.mem_of_getElem? (i := 126) rfl), in_1 (List.mem_of_getElem? (i := 13) rfl), ⟨by decide +kernel, by decide +kernel, by decide +kernel⟩, by decide +kernel, by decide, ⟨in_9 (List.mem_of_getElem? (i := 124) rfl), in_9 (List.mem_of_getElem? (i := 125) rfl)⟩⟩
def y_BT_seed : MethodName := ⟨"BreathTown", "seed", "(I)Z"⟩
theorem mk_BT_seed : mOk y_BT_seed prog_1_method_27_code 2 (Option.some Jvm.ClassFile.FieldType.boolean) 1 false := ⟨in_5 (List.mem_of_getElem? (i := 178) rfl), in_1 (List.mem_of_getElem? (i := 1) rfl), ⟨by decide +kernel, by decide +kernel, by decide +kernel⟩, by decide +kernel, by decide, ⟨in_5 (List.mem_of_getElem? (i := 176) rfl), in_5 (List.mem_of_getElem? (i := 177) rfl)⟩⟩
def y_M_undo : MethodName := ⟨"BreathTownModel", "undo", "()Z"⟩
theorem mk_M_undo : mOk y_M_undo prog_14_method_102_code 2 (Option.some Jvm.ClassFile.FieldType.boolean) 0 false := ⟨in_9 (List.mem_of_getElem? (i := 101) rfl), in_1 (List.mem_of_getElem? (i := 13) rfl), ⟨by decide +kernel, by decide +kernel, by decide +kernel⟩, by decide +kernel, by decide, ⟨in_9 (List.mem_of_getElem? (i := 99) rfl), in_9 (List.mem_of_getElem? (i := 100) rfl)⟩⟩
def y_BT_undo : MethodName := ⟨"BreathTown", "undo", "()Z"⟩
theorem mk_BT_undo : mOk y_BT_undo prog_1_method_26_code 1 (Option.some Jvm.ClassFile.FieldType.boolean) 0 false := ⟨in_5 (List.mem_of_getElem? (i := 170) rfl), in_1 (List.mem_of_getElem? (i := 1) rfl), ⟨by decide +kernel, by decide +kernel, by decide +kernel⟩, by decide +kernel, by decide, ⟨in_5 (List.mem_of_getElem? (i := 168) rfl), in_5 (List.mem_of_getElem? (i := 169) rfl)⟩⟩
def y_Now_takeBack : MethodName := ⟨"BreathTown$Now", "takeBack", "()V"⟩
theorem mk_Now_takeBack : mOk y_Now_takeBack prog_4_method_8_code 2 (Option.none : Option Jvm.ClassFile.FieldType) 0 false := ⟨in_5 (List.mem_of_getElem? (i := 174) rfl), in_1 (List.mem_of_getElem? (i := 7) rfl), ⟨by decide +kernel, by decide +kernel, by decide +kernel⟩, by decide +kernel, by decide, ⟨in_5 (List.mem_of_getElem? (i := 172) rfl), in_5 (List.mem_of_getElem? (i := 173) rfl)⟩⟩
def y_Now_move : MethodName := ⟨"BreathTown$Now", "move", "([IIZ)V"⟩
theorem mk_Now_move : mOk y_Now_move prog_4_method_9_code 5 (Option.none : Option Jvm.ClassFile.FieldType) 3 false := ⟨in_5 (List.mem_of_getElem? (i := 133) rfl), in_1 (List.mem_of_getElem? (i := 7) rfl), ⟨by decide +kernel, by decide +kernel, by decide +kernel⟩, by decide +kernel, by decide, ⟨in_5 (List.mem_of_getElem? (i := 132) rfl), lw_pv (i := 31) (by decide +kernel)⟩⟩
def y_M_days : MethodName := ⟨"BreathTownModel", "days", "(I)I"⟩
theorem mk_M_days : mOk y_M_days prog_14_method_109_code 4 (Option.some Jvm.ClassFile.FieldType.int) 1 false := ⟨in_9 (List.mem_of_getElem? (i := 130) rfl), in_1 (List.mem_of_getElem? (i := 13) rfl), ⟨by decide +kernel, by decide +kernel, by decide +kernel⟩, by decide +kernel, by decide, ⟨in_9 (List.mem_of_getElem? (i := 128) rfl), in_9 (List.mem_of_getElem? (i := 129) rfl)⟩⟩
def y_M_shifts0 : MethodName := ⟨"BreathTownModel", "shifts0", "(II)V"⟩
theorem mk_M_shifts0 : mOk y_M_shifts0 prog_14_method_105_code 3 (Option.none : Option Jvm.ClassFile.FieldType) 2 false := ⟨in_9 (List.mem_of_getElem? (i := 122) rfl), in_1 (List.mem_of_getElem? (i := 13) rfl), ⟨by decide +kernel, by decide +kernel, by decide +kernel⟩, by decide +kernel, by decide, ⟨in_9 (List.mem_of_getElem? (i := 121) rfl), lw_pv (i := 119) (by decide +kernel)⟩⟩
def y_M_drawOf : MethodName := ⟨"BreathTownModel", "drawOf", "(I)I"⟩
theorem mk_M_drawOf : mOk y_M_drawOf prog_14_method_108_code 2 (Option.some Jvm.ClassFile.FieldType.int) 1 false := ⟨in_9 (List.mem_of_getElem? (i := 135) rfl), in_1 (List.mem_of_getElem? (i := 13) rfl), ⟨by decide +kernel, by decide +kernel, by decide +kernel⟩, by decide +kernel, by decide, ⟨in_9 (List.mem_of_getElem? (i := 134) rfl), lw_pv (i := 120) (by decide +kernel)⟩⟩
def y_M_keeps : MethodName := ⟨"BreathTownModel", "keeps", "()V"⟩
theorem mk_M_keeps : mOk y_M_keeps prog_14_method_101_code 2 (Option.none : Option Jvm.ClassFile.FieldType) 0 false := ⟨in_9 (List.mem_of_getElem? (i := 110) rfl), in_1 (List.mem_of_getElem? (i := 13) rfl), ⟨by decide +kernel, by decide +kernel, by decide +kernel⟩, by decide +kernel, by decide, ⟨in_9 (List.mem_of_getElem? (i := 109) rfl), lw_pv (i := 118) (by decide +kernel)⟩⟩
def y_BT_days : MethodName := ⟨"BreathTown", "days", "(I)I"⟩
theorem mk_BT_days : mOk y_BT_days prog_1_method_25_code 3 (Option.some Jvm.ClassFile.FieldType.int) 1 false := ⟨in_5 (List.mem_of_getElem? (i := 154) rfl), in_1 (List.mem_of_getElem? (i := 1) rfl), ⟨by decide +kernel, by decide +kernel, by decide +kernel⟩, by decide +kernel, by decide, ⟨in_5 (List.mem_of_getElem? (i := 152) rfl), in_5 (List.mem_of_getElem? (i := 153) rfl)⟩⟩
def y_BT_passDay : MethodName := ⟨"BreathTown", "passDay", "()V"⟩
theorem mk_BT_passDay : mOk y_BT_passDay prog_1_method_38_code 3 (Option.none : Option Jvm.ClassFile.FieldType) 0 false := ⟨in_5 (List.mem_of_getElem? (i := 158) rfl), in_1 (List.mem_of_getElem? (i := 1) rfl), ⟨by decide +kernel, by decide +kernel, by decide +kernel⟩, by decide +kernel, by decide, ⟨in_5 (List.mem_of_getElem? (i := 157) rfl), lw_pv (i := 32) (by decide +kernel)⟩⟩
def y_Now_turn : MethodName := ⟨"BreathTown$Now", "turn", "(II)V"⟩
theorem mk_Now_turn : mOk y_Now_turn prog_4_method_5_code 4 (Option.none : Option Jvm.ClassFile.FieldType) 2 false := ⟨in_5 (List.mem_of_getElem? (i := 149) rfl), in_1 (List.mem_of_getElem? (i := 7) rfl), ⟨by decide +kernel, by decide +kernel, by decide +kernel⟩, by decide +kernel, by decide, ⟨in_5 (List.mem_of_getElem? (i := 147) rfl), in_5 (List.mem_of_getElem? (i := 148) rfl)⟩⟩
def y_BT_drawn : MethodName := ⟨"BreathTown", "drawn", "(I)I"⟩
theorem mk_BT_drawn : mOk y_BT_drawn prog_1_method_39_code 2 (Option.some Jvm.ClassFile.FieldType.int) 1 false := ⟨in_5 (List.mem_of_getElem? (i := 162) rfl), in_1 (List.mem_of_getElem? (i := 1) rfl), ⟨by decide +kernel, by decide +kernel, by decide +kernel⟩, by decide +kernel, by decide, ⟨in_5 (List.mem_of_getElem? (i := 161) rfl), lw_pv (i := 33) (by decide +kernel)⟩⟩
def y_Now_keep : MethodName := ⟨"BreathTown$Now", "keep", "()V"⟩
theorem mk_Now_keep : mOk y_Now_keep prog_4_method_7_code 2 (Option.none : Option Jvm.ClassFile.FieldType) 0 false := ⟨in_5 (List.mem_of_getElem? (i := 128) rfl), in_1 (List.mem_of_getElem? (i := 7) rfl), ⟨by decide +kernel, by decide +kernel, by decide +kernel⟩, by decide +kernel, by decide, ⟨in_5 (List.mem_of_getElem? (i := 126) rfl), in_5 (List.mem_of_getElem? (i := 127) rfl)⟩⟩
def y_M_hold : MethodName := ⟨"BreathTownModel", "hold", "(II)I"⟩
theorem mk_M_hold : mOk y_M_hold prog_14_method_106_code 3 (Option.some Jvm.ClassFile.FieldType.int) 2 false := ⟨in_9 (List.mem_of_getElem? (i := 118) rfl), in_1 (List.mem_of_getElem? (i := 13) rfl), ⟨by decide +kernel, by decide +kernel, by decide +kernel⟩, by decide +kernel, by decide, ⟨in_9 (List.mem_of_getElem? (i := 116) rfl), in_9 (List.mem_of_getElem? (i := 117) rfl)⟩⟩
def y_BT_hold : MethodName := ⟨"BreathTown", "hold", "(II)I"⟩
theorem mk_BT_hold : mOk y_BT_hold prog_1_method_24_code 3 (Option.some Jvm.ClassFile.FieldType.int) 2 false := ⟨in_5 (List.mem_of_getElem? (i := 145) rfl), in_1 (List.mem_of_getElem? (i := 1) rfl), ⟨by decide +kernel, by decide +kernel, by decide +kernel⟩, by decide +kernel, by decide, ⟨in_5 (List.mem_of_getElem? (i := 143) rfl), in_5 (List.mem_of_getElem? (i := 144) rfl)⟩⟩
def y_M_send : MethodName := ⟨"BreathTownModel", "send", "(I)I"⟩
theorem mk_M_send : mOk y_M_send prog_14_method_104_code 4 (Option.some Jvm.ClassFile.FieldType.int) 1 false := ⟨in_9 (List.mem_of_getElem? (i := 114) rfl), in_1 (List.mem_of_getElem? (i := 13) rfl), ⟨by decide +kernel, by decide +kernel, by decide +kernel⟩, by decide +kernel, by decide, ⟨in_9 (List.mem_of_getElem? (i := 112) rfl), in_9 (List.mem_of_getElem? (i := 113) rfl)⟩⟩
def y_M_hasWay : MethodName := ⟨"BreathTownModel", "hasWay", "(I)Z"⟩
theorem mk_M_hasWay : mOk y_M_hasWay prog_14_method_69_code 2 (Option.some Jvm.ClassFile.FieldType.boolean) 1 false := ⟨in_8 (List.mem_of_getElem? (i := 223) rfl), in_1 (List.mem_of_getElem? (i := 13) rfl), ⟨by decide +kernel, by decide +kernel, by decide +kernel⟩, by decide +kernel, by decide, ⟨in_8 (List.mem_of_getElem? (i := 222) rfl), lw_pv (i := 96) (by decide +kernel)⟩⟩
def y_M_findsWay : MethodName := ⟨"BreathTownModel", "findsWay", "(I)Z"⟩
theorem mk_M_findsWay : mOk y_M_findsWay prog_14_method_70_code 3 (Option.some Jvm.ClassFile.FieldType.boolean) 1 false := ⟨in_8 (List.mem_of_getElem? (i := 227) rfl), in_1 (List.mem_of_getElem? (i := 13) rfl), ⟨by decide +kernel, by decide +kernel, by decide +kernel⟩, by decide +kernel, by decide, ⟨in_8 (List.mem_of_getElem? (i := 226) rfl), lw_pv (i := 97) (by decide +kernel)⟩⟩
def y_M_stepsBack : MethodName := ⟨"BreathTownModel", "stepsBack", "(II)I"⟩
theorem mk_M_stepsBack : mOk y_M_stepsBack prog_14_method_71_code 6 (Option.some Jvm.ClassFile.FieldType.int) 2 false := ⟨in_9 (List.mem_of_getElem? (i := 20) rfl), in_1 (List.mem_of_getElem? (i := 13) rfl), ⟨by decide +kernel, by decide +kernel, by decide +kernel⟩, by decide +kernel, by decide, ⟨in_9 (List.mem_of_getElem? (i := 19) rfl), lw_pv (i := 105) (by decide +kernel)⟩⟩
def y_M_taken : MethodName := ⟨"BreathTownModel", "taken", "(IIII)I"⟩
theorem mk_M_taken : mOk y_M_taken prog_14_method_64_code 6 (Option.some Jvm.ClassFile.FieldType.int) 4 false := ⟨in_9 (List.mem_of_getElem? (i := 8) rfl), in_1 (List.mem_of_getElem? (i := 13) rfl), ⟨by decide +kernel, by decide +kernel, by decide +kernel⟩, by decide +kernel, by decide, ⟨in_9 (List.mem_of_getElem? (i := 7) rfl), lw_pv (i := 102) (by decide +kernel)⟩⟩
def y_M_isFree : MethodName := ⟨"BreathTownModel", "isFree", "(III)Z"⟩
theorem mk_M_isFree : mOk y_M_isFree prog_14_method_63_code 5 (Option.some Jvm.ClassFile.FieldType.boolean) 3 false := ⟨in_9 (List.mem_of_getElem? (i := 12) rfl), in_1 (List.mem_of_getElem? (i := 13) rfl), ⟨by decide +kernel, by decide +kernel, by decide +kernel⟩, by decide +kernel, by decide, ⟨in_9 (List.mem_of_getElem? (i := 11) rfl), lw_pv (i := 103) (by decide +kernel)⟩⟩
def y_M_crowdIn : MethodName := ⟨"BreathTownModel", "crowdIn", "(II)I"⟩
theorem mk_M_crowdIn : mOk y_M_crowdIn prog_14_method_62_code 5 (Option.some Jvm.ClassFile.FieldType.int) 2 false := ⟨in_9 (List.mem_of_getElem? (i := 16) rfl), in_1 (List.mem_of_getElem? (i := 13) rfl), ⟨by decide +kernel, by decide +kernel, by decide +kernel⟩, by decide +kernel, by decide, ⟨in_9 (List.mem_of_getElem? (i := 15) rfl), lw_pv (i := 104) (by decide +kernel)⟩⟩
def y_M_other : MethodName := ⟨"BreathTownModel", "other", "(II)I"⟩
theorem mk_M_other : mOk y_M_other prog_14_method_68_code 3 (Option.some Jvm.ClassFile.FieldType.int) 2 false := ⟨in_9 (List.mem_of_getElem? (i := 24) rfl), in_1 (List.mem_of_getElem? (i := 13) rfl), ⟨by decide +kernel, by decide +kernel, by decide +kernel⟩, by decide +kernel, by decide, ⟨in_9 (List.mem_of_getElem? (i := 23) rfl), lw_pv (i := 106) (by decide +kernel)⟩⟩
def y_M_endOf : MethodName := ⟨"BreathTownModel", "endOf", "(II)I"⟩
theorem mk_M_endOf : mOk y_M_endOf prog_14_method_49_code 3 (Option.some Jvm.ClassFile.FieldType.int) 2 false := ⟨in_8 (List.mem_of_getElem? (i := 111) rfl), in_1 (List.mem_of_getElem? (i := 13) rfl), ⟨by decide +kernel, by decide +kernel, by decide +kernel⟩, by decide +kernel, by decide, ⟨in_8 (List.mem_of_getElem? (i := 110) rfl), lw_pv (i := 79) (by decide +kernel)⟩⟩
def y_M_spreadsFor : MethodName := ⟨"BreathTownModel", "spreadsFor", "(II)V"⟩
theorem mk_M_spreadsFor : mOk y_M_spreadsFor prog_14_method_67_code 3 (Option.none : Option Jvm.ClassFile.FieldType) 2 false := ⟨in_8 (List.mem_of_getElem? (i := 231) rfl), in_1 (List.mem_of_getElem? (i := 13) rfl), ⟨by decide +kernel, by decide +kernel, by decide +kernel⟩, by decide +kernel, by decide, ⟨in_8 (List.mem_of_getElem? (i := 230) rfl), lw_pv (i := 98) (by decide +kernel)⟩⟩
def y_M_spreads : MethodName := ⟨"BreathTownModel", "spreads", "(IIIII)V"⟩
theorem mk_M_spreads : mOk y_M_spreads prog_14_method_66_code 10 (Option.none : Option Jvm.ClassFile.FieldType) 5 false := ⟨in_8 (List.mem_of_getElem? (i := 239) rfl), in_1 (List.mem_of_getElem? (i := 13) rfl), ⟨by decide +kernel, by decide +kernel, by decide +kernel⟩, by decide +kernel, by decide, ⟨in_8 (List.mem_of_getElem? (i := 238) rfl), lw_pv (i := 100) (by decide +kernel)⟩⟩
def y_M_improves : MethodName := ⟨"BreathTownModel", "improves", "(IIIII)Z"⟩
theorem mk_M_improves : mOk y_M_improves prog_14_method_65_code 8 (Option.some Jvm.ClassFile.FieldType.boolean) 5 false := ⟨in_9 (List.mem_of_getElem? (i := 4) rfl), in_1 (List.mem_of_getElem? (i := 13) rfl), ⟨by decide +kernel, by decide +kernel, by decide +kernel⟩, by decide +kernel, by decide, ⟨in_9 (List.mem_of_getElem? (i := 3) rfl), lw_pv (i := 101) (by decide +kernel)⟩⟩
def y_M_setsOut : MethodName := ⟨"BreathTownModel", "setsOut", "(I)I"⟩
theorem mk_M_setsOut : mOk y_M_setsOut prog_14_method_56_code 3 (Option.some Jvm.ClassFile.FieldType.int) 1 false := ⟨in_8 (List.mem_of_getElem? (i := 235) rfl), in_1 (List.mem_of_getElem? (i := 13) rfl), ⟨by decide +kernel, by decide +kernel, by decide +kernel⟩, by decide +kernel, by decide, ⟨in_8 (List.mem_of_getElem? (i := 234) rfl), lw_pv (i := 99) (by decide +kernel)⟩⟩
def y_M_isWalker : MethodName := ⟨"BreathTownModel", "isWalker", "(I)Z"⟩
theorem mk_M_isWalker : mOk y_M_isWalker prog_14_method_48_code 2 (Option.some Jvm.ClassFile.FieldType.boolean) 1 false := ⟨in_8 (List.mem_of_getElem? (i := 162) rfl), in_1 (List.mem_of_getElem? (i := 13) rfl), ⟨by decide +kernel, by decide +kernel, by decide +kernel⟩, by decide +kernel, by decide, ⟨in_8 (List.mem_of_getElem? (i := 161) rfl), lw_pv (i := 88) (by decide +kernel)⟩⟩
def y_BT_send : MethodName := ⟨"BreathTown", "send", "(I)I"⟩
theorem mk_BT_send : mOk y_BT_send prog_1_method_23_code 3 (Option.some Jvm.ClassFile.FieldType.int) 1 false := ⟨in_5 (List.mem_of_getElem? (i := 137) rfl), in_1 (List.mem_of_getElem? (i := 1) rfl), ⟨by decide +kernel, by decide +kernel, by decide +kernel⟩, by decide +kernel, by decide, ⟨in_5 (List.mem_of_getElem? (i := 135) rfl), in_5 (List.mem_of_getElem? (i := 136) rfl)⟩⟩
def y_Now_arrive : MethodName := ⟨"BreathTown$Now", "arrive", "(II)V"⟩
theorem mk_Now_arrive : mOk y_Now_arrive prog_4_method_6_code 4 (Option.none : Option Jvm.ClassFile.FieldType) 2 false := ⟨in_5 (List.mem_of_getElem? (i := 141) rfl), in_1 (List.mem_of_getElem? (i := 7) rfl), ⟨by decide +kernel, by decide +kernel, by decide +kernel⟩, by decide +kernel, by decide, ⟨in_5 (List.mem_of_getElem? (i := 139) rfl), in_5 (List.mem_of_getElem? (i := 140) rfl)⟩⟩
def y_Ways_plan : MethodName := ⟨"BreathTown$Ways", "plan", "(I)I"⟩
theorem mk_Ways_plan : mOk y_Ways_plan prog_11_method_14_code 4 (Option.some Jvm.ClassFile.FieldType.int) 1 false := ⟨in_4 (List.mem_of_getElem? (i := 196) rfl), in_1 (List.mem_of_getElem? (i := 9) rfl), ⟨by decide +kernel, by decide +kernel, by decide +kernel⟩, by decide +kernel, by decide, ⟨in_4 (List.mem_of_getElem? (i := 194) rfl), in_4 (List.mem_of_getElem? (i := 195) rfl)⟩⟩
def y_Ways_soonestAt : MethodName := ⟨"BreathTown$Ways", "soonestAt", "(I)I"⟩
theorem mk_Ways_soonestAt : mOk y_Ways_soonestAt prog_11_method_7_code 3 (Option.some Jvm.ClassFile.FieldType.int) 1 false := ⟨in_5 (List.mem_of_getElem? (i := 3) rfl), in_1 (List.mem_of_getElem? (i := 9) rfl), ⟨by decide +kernel, by decide +kernel, by decide +kernel⟩, by decide +kernel, by decide, ⟨in_5 (List.mem_of_getElem? (i := 1) rfl), in_5 (List.mem_of_getElem? (i := 2) rfl)⟩⟩
def y_Ways_trace : MethodName := ⟨"BreathTown$Ways", "trace", "(III)Z"⟩
theorem mk_Ways_trace : mOk y_Ways_trace prog_11_method_11_code 11 (Option.some Jvm.ClassFile.FieldType.boolean) 3 false := ⟨in_4 (List.mem_of_getElem? (i := 232) rfl), in_1 (List.mem_of_getElem? (i := 9) rfl), ⟨by decide +kernel, by decide +kernel, by decide +kernel⟩, by decide +kernel, by decide, ⟨in_4 (List.mem_of_getElem? (i := 230) rfl), in_4 (List.mem_of_getElem? (i := 231) rfl)⟩⟩
def y_Ways_turnSteps : MethodName := ⟨"BreathTown$Ways", "turnSteps", "()V"⟩
theorem mk_Ways_turnSteps : mOk y_Ways_turnSteps prog_11_method_12_code 2 (Option.none : Option Jvm.ClassFile.FieldType) 0 false := ⟨in_4 (List.mem_of_getElem? (i := 236) rfl), in_1 (List.mem_of_getElem? (i := 9) rfl), ⟨by decide +kernel, by decide +kernel, by decide +kernel⟩, by decide +kernel, by decide, ⟨in_4 (List.mem_of_getElem? (i := 235) rfl), lw_pv (i := 18) (by decide +kernel)⟩⟩
def y_Ways_swap : MethodName := ⟨"BreathTown$Ways", "swap", "([III)V"⟩
theorem mk_Ways_swap : mOk y_Ways_swap prog_11_method_13_code 4 (Option.none : Option Jvm.ClassFile.FieldType) 3 true := ⟨in_4 (List.mem_of_getElem? (i := 239) rfl), in_1 (List.mem_of_getElem? (i := 9) rfl), ⟨by decide +kernel, by decide +kernel, by decide +kernel⟩, by decide +kernel, by decide, in_4 (List.mem_of_getElem? (i := 238) rfl)⟩
def y_Told_beyond : MethodName := ⟨"BreathTown$Told", "beyond", "(II)I"⟩
theorem mk_Told_beyond : mOk y_Told_beyond prog_9_method_9_code 5 (Option.some Jvm.ClassFile.FieldType.int) 2 false := ⟨in_4 (List.mem_of_getElem? (i := 224) rfl), in_1 (List.mem_of_getElem? (i := 3) rfl), ⟨by decide +kernel, by decide +kernel, by decide +kernel⟩, by decide +kernel, by decide, ⟨in_4 (List.mem_of_getElem? (i := 222) rfl), in_4 (List.mem_of_getElem? (i := 223) rfl)⟩⟩
def y_Ways_searchFor : MethodName := ⟨"BreathTown$Ways", "searchFor", "(II)V"⟩
theorem mk_Ways_searchFor : mOk y_Ways_searchFor prog_11_method_10_code 3 (Option.none : Option Jvm.ClassFile.FieldType) 2 false := ⟨in_4 (List.mem_of_getElem? (i := 201) rfl), in_1 (List.mem_of_getElem? (i := 9) rfl), ⟨by decide +kernel, by decide +kernel, by decide +kernel⟩, by decide +kernel, by decide, ⟨in_4 (List.mem_of_getElem? (i := 199) rfl), in_4 (List.mem_of_getElem? (i := 200) rfl)⟩⟩
def y_Ways_search : MethodName := ⟨"BreathTown$Ways", "search", "(IIII)V"⟩
theorem mk_Ways_search : mOk y_Ways_search prog_11_method_8_code 13 (Option.none : Option Jvm.ClassFile.FieldType) 4 false := ⟨in_4 (List.mem_of_getElem? (i := 212) rfl), in_1 (List.mem_of_getElem? (i := 9) rfl), ⟨by decide +kernel, by decide +kernel, by decide +kernel⟩, by decide +kernel, by decide, ⟨in_4 (List.mem_of_getElem? (i := 210) rfl), in_4 (List.mem_of_getElem? (i := 211) rfl)⟩⟩
def y_Ways_soonestBut : MethodName := ⟨"BreathTown$Ways", "soonestBut", "(I)I"⟩
theorem mk_Ways_soonestBut : mOk y_Ways_soonestBut prog_11_method_9_code 5 (Option.some Jvm.ClassFile.FieldType.int) 1 false := ⟨in_4 (List.mem_of_getElem? (i := 220) rfl), in_1 (List.mem_of_getElem? (i := 9) rfl), ⟨by decide +kernel, by decide +kernel, by decide +kernel⟩, by decide +kernel, by decide, ⟨in_4 (List.mem_of_getElem? (i := 219) rfl), lw_pv (i := 17) (by decide +kernel)⟩⟩
def y_Now_setOut : MethodName := ⟨"BreathTown$Now", "setOut", "(I)I"⟩
theorem mk_Now_setOut : mOk y_Now_setOut prog_4_method_3_code 2 (Option.some Jvm.ClassFile.FieldType.int) 1 false := ⟨in_4 (List.mem_of_getElem? (i := 205) rfl), in_1 (List.mem_of_getElem? (i := 7) rfl), ⟨by decide +kernel, by decide +kernel, by decide +kernel⟩, by decide +kernel, by decide, ⟨in_4 (List.mem_of_getElem? (i := 203) rfl), in_4 (List.mem_of_getElem? (i := 204) rfl)⟩⟩
def y_M_go : MethodName := ⟨"BreathTownModel", "go", "(I)I"⟩
theorem mk_M_go : mOk y_M_go prog_14_method_103_code 2 (Option.some Jvm.ClassFile.FieldType.int) 1 false := ⟨in_9 (List.mem_of_getElem? (i := 105) rfl), in_1 (List.mem_of_getElem? (i := 13) rfl), ⟨by decide +kernel, by decide +kernel, by decide +kernel⟩, by decide +kernel, by decide, ⟨in_9 (List.mem_of_getElem? (i := 103) rfl), in_9 (List.mem_of_getElem? (i := 104) rfl)⟩⟩
def y_BT_go : MethodName := ⟨"BreathTown", "go", "(I)I"⟩
theorem mk_BT_go : mOk y_BT_go prog_1_method_22_code 2 (Option.some Jvm.ClassFile.FieldType.int) 1 false := ⟨in_5 (List.mem_of_getElem? (i := 124) rfl), in_1 (List.mem_of_getElem? (i := 1) rfl), ⟨by decide +kernel, by decide +kernel, by decide +kernel⟩, by decide +kernel, by decide, ⟨in_5 (List.mem_of_getElem? (i := 122) rfl), in_5 (List.mem_of_getElem? (i := 123) rfl)⟩⟩
def y_M_doctors : MethodName := ⟨"BreathTownModel", "doctors", "(III)I"⟩
theorem mk_M_doctors : mOk y_M_doctors prog_14_method_100_code 4 (Option.some Jvm.ClassFile.FieldType.int) 3 false := ⟨in_9 (List.mem_of_getElem? (i := 80) rfl), in_1 (List.mem_of_getElem? (i := 13) rfl), ⟨by decide +kernel, by decide +kernel, by decide +kernel⟩, by decide +kernel, by decide, ⟨in_9 (List.mem_of_getElem? (i := 78) rfl), in_9 (List.mem_of_getElem? (i := 79) rfl)⟩⟩
def y_M_seeksDoctors : MethodName := ⟨"BreathTownModel", "seeksDoctors", "()V"⟩
theorem mk_M_seeksDoctors : mOk y_M_seeksDoctors prog_14_method_99_code 5 (Option.none : Option Jvm.ClassFile.FieldType) 0 false := ⟨in_9 (List.mem_of_getElem? (i := 89) rfl), in_1 (List.mem_of_getElem? (i := 13) rfl), ⟨by decide +kernel, by decide +kernel, by decide +kernel⟩, by decide +kernel, by decide, ⟨in_9 (List.mem_of_getElem? (i := 88) rfl), lw_pv (i := 115) (by decide +kernel)⟩⟩
def y_M_isFound : MethodName := ⟨"BreathTownModel", "isFound", "(III)Z"⟩
theorem mk_M_isFound : mOk y_M_isFound prog_14_method_98_code 4 (Option.some Jvm.ClassFile.FieldType.boolean) 3 false := ⟨in_9 (List.mem_of_getElem? (i := 93) rfl), in_1 (List.mem_of_getElem? (i := 13) rfl), ⟨by decide +kernel, by decide +kernel, by decide +kernel⟩, by decide +kernel, by decide, ⟨in_9 (List.mem_of_getElem? (i := 92) rfl), lw_pv (i := 116) (by decide +kernel)⟩⟩
def y_M_areEnough : MethodName := ⟨"BreathTownModel", "areEnough", "(III)Z"⟩
theorem mk_M_areEnough : mOk y_M_areEnough prog_14_method_97_code 6 (Option.some Jvm.ClassFile.FieldType.boolean) 3 false := ⟨in_9 (List.mem_of_getElem? (i := 97) rfl), in_1 (List.mem_of_getElem? (i := 13) rfl), ⟨by decide +kernel, by decide +kernel, by decide +kernel⟩, by decide +kernel, by decide, ⟨in_9 (List.mem_of_getElem? (i := 96) rfl), lw_pv (i := 117) (by decide +kernel)⟩⟩
def y_M_placeMany : MethodName := ⟨"BreathTownModel", "placeMany", "()I"⟩
theorem mk_M_placeMany : mOk y_M_placeMany prog_14_method_43_code 1 (Option.some Jvm.ClassFile.FieldType.int) 0 false := ⟨in_8 (List.mem_of_getElem? (i := 81) rfl), in_1 (List.mem_of_getElem? (i := 13) rfl), ⟨by decide +kernel, by decide +kernel, by decide +kernel⟩, by decide +kernel, by decide, ⟨in_8 (List.mem_of_getElem? (i := 80) rfl), lw_pv (i := 74) (by decide +kernel)⟩⟩
def y_M_reaches : MethodName := ⟨"BreathTownModel", "reaches", "(II)V"⟩
theorem mk_M_reaches : mOk y_M_reaches prog_14_method_96_code 8 (Option.none : Option Jvm.ClassFile.FieldType) 2 false := ⟨in_9 (List.mem_of_getElem? (i := 85) rfl), in_1 (List.mem_of_getElem? (i := 13) rfl), ⟨by decide +kernel, by decide +kernel, by decide +kernel⟩, by decide +kernel, by decide, ⟨in_9 (List.mem_of_getElem? (i := 84) rfl), lw_pv (i := 114) (by decide +kernel)⟩⟩
def y_BT_doctors : MethodName := ⟨"BreathTown", "doctors", "(III)I"⟩
theorem mk_BT_doctors : mOk y_BT_doctors prog_1_method_21_code 5 (Option.some Jvm.ClassFile.FieldType.int) 3 false := ⟨in_5 (List.mem_of_getElem? (i := 82) rfl), in_1 (List.mem_of_getElem? (i := 1) rfl), ⟨by decide +kernel, by decide +kernel, by decide +kernel⟩, by decide +kernel, by decide, ⟨in_5 (List.mem_of_getElem? (i := 80) rfl), in_5 (List.mem_of_getElem? (i := 81) rfl)⟩⟩
def y_Many_findDoctors : MethodName := ⟨"BreathTown$Many", "findDoctors", "(II)I"⟩
theorem mk_Many_findDoctors : mOk y_Many_findDoctors prog_3_method_6_code 7 (Option.some Jvm.ClassFile.FieldType.int) 2 false := ⟨in_5 (List.mem_of_getElem? (i := 86) rfl), in_1 (List.mem_of_getElem? (i := 10) rfl), ⟨by decide +kernel, by decide +kernel, by decide +kernel⟩, by decide +kernel, by decide, ⟨in_5 (List.mem_of_getElem? (i := 84) rfl), in_5 (List.mem_of_getElem? (i := 85) rfl)⟩⟩
def y_Many_keepFound : MethodName := ⟨"BreathTown$Many", "keepFound", "(IIII)I"⟩
theorem mk_Many_keepFound : mOk y_Many_keepFound prog_3_method_7_code 5 (Option.some Jvm.ClassFile.FieldType.int) 4 false := ⟨in_5 (List.mem_of_getElem? (i := 120) rfl), in_1 (List.mem_of_getElem? (i := 10) rfl), ⟨by decide +kernel, by decide +kernel, by decide +kernel⟩, by decide +kernel, by decide, ⟨in_5 (List.mem_of_getElem? (i := 119) rfl), lw_pv (i := 30) (by decide +kernel)⟩⟩
def y_Many_allReached : MethodName := ⟨"BreathTown$Many", "allReached", "(III)Z"⟩
theorem mk_Many_allReached : mOk y_Many_allReached prog_3_method_8_code 7 (Option.some Jvm.ClassFile.FieldType.boolean) 3 false := ⟨in_5 (List.mem_of_getElem? (i := 116) rfl), in_1 (List.mem_of_getElem? (i := 10) rfl), ⟨by decide +kernel, by decide +kernel, by decide +kernel⟩, by decide +kernel, by decide, ⟨in_5 (List.mem_of_getElem? (i := 115) rfl), lw_pv (i := 29) (by decide +kernel)⟩⟩
def y_Many_lookBack : MethodName := ⟨"BreathTown$Many", "lookBack", "(II)V"⟩
theorem mk_Many_lookBack : mOk y_Many_lookBack prog_3_method_9_code 7 (Option.none : Option Jvm.ClassFile.FieldType) 2 false := ⟨in_5 (List.mem_of_getElem? (i := 90) rfl), in_1 (List.mem_of_getElem? (i := 10) rfl), ⟨by decide +kernel, by decide +kernel, by decide +kernel⟩, by decide +kernel, by decide, ⟨in_5 (List.mem_of_getElem? (i := 89) rfl), lw_pv (i := 24) (by decide +kernel)⟩⟩
def y_Many_keepReached : MethodName := ⟨"BreathTown$Many", "keepReached", "(II)V"⟩
theorem mk_Many_keepReached : mOk y_Many_keepReached prog_3_method_14_code 6 (Option.none : Option Jvm.ClassFile.FieldType) 2 false := ⟨in_5 (List.mem_of_getElem? (i := 112) rfl), in_1 (List.mem_of_getElem? (i := 10) rfl), ⟨by decide +kernel, by decide +kernel, by decide +kernel⟩, by decide +kernel, by decide, ⟨in_5 (List.mem_of_getElem? (i := 111) rfl), lw_pv (i := 28) (by decide +kernel)⟩⟩
def y_Many_slot : MethodName := ⟨"BreathTown$Many", "slot", "(II)I"⟩
theorem mk_Many_slot : mOk y_Many_slot prog_3_method_10_code 2 (Option.some Jvm.ClassFile.FieldType.int) 2 true := ⟨in_5 (List.mem_of_getElem? (i := 99) rfl), in_1 (List.mem_of_getElem? (i := 10) rfl), ⟨by decide +kernel, by decide +kernel, by decide +kernel⟩, by decide +kernel, by decide, in_5 (List.mem_of_getElem? (i := 98) rfl)⟩
def y_Many_passOn : MethodName := ⟨"BreathTown$Many", "passOn", "(IIII)V"⟩
theorem mk_Many_passOn : mOk y_Many_passOn prog_3_method_13_code 9 (Option.none : Option Jvm.ClassFile.FieldType) 4 false := ⟨in_5 (List.mem_of_getElem? (i := 108) rfl), in_1 (List.mem_of_getElem? (i := 10) rfl), ⟨by decide +kernel, by decide +kernel, by decide +kernel⟩, by decide +kernel, by decide, ⟨in_5 (List.mem_of_getElem? (i := 107) rfl), lw_pv (i := 27) (by decide +kernel)⟩⟩
def y_Many_areIn : MethodName := ⟨"BreathTown$Many", "areIn", "(II)Z"⟩
theorem mk_Many_areIn : mOk y_Many_areIn prog_3_method_11_code 4 (Option.some Jvm.ClassFile.FieldType.boolean) 2 false := ⟨in_5 (List.mem_of_getElem? (i := 103) rfl), in_1 (List.mem_of_getElem? (i := 10) rfl), ⟨by decide +kernel, by decide +kernel, by decide +kernel⟩, by decide +kernel, by decide, ⟨in_5 (List.mem_of_getElem? (i := 102) rfl), lw_pv (i := 26) (by decide +kernel)⟩⟩
def y_Many_waitOn : MethodName := ⟨"BreathTown$Many", "waitOn", "(I)V"⟩
theorem mk_Many_waitOn : mOk y_Many_waitOn prog_3_method_12_code 7 (Option.none : Option Jvm.ClassFile.FieldType) 1 false := ⟨in_5 (List.mem_of_getElem? (i := 95) rfl), in_1 (List.mem_of_getElem? (i := 10) rfl), ⟨by decide +kernel, by decide +kernel, by decide +kernel⟩, by decide +kernel, by decide, ⟨in_5 (List.mem_of_getElem? (i := 94) rfl), lw_pv (i := 25) (by decide +kernel)⟩⟩
def y_BT_isBreadth : MethodName := ⟨"BreathTown", "isBreadth", "(I)Z"⟩
theorem mk_BT_isBreadth : mOk y_BT_isBreadth prog_1_method_40_code 1 (Option.some Jvm.ClassFile.FieldType.boolean) 1 true := ⟨in_4 (List.mem_of_getElem? (i := 151) rfl), in_1 (List.mem_of_getElem? (i := 1) rfl), ⟨by decide +kernel, by decide +kernel, by decide +kernel⟩, by decide +kernel, by decide, in_4 (List.mem_of_getElem? (i := 150) rfl)⟩
def y_M_rows : MethodName := ⟨"BreathTownModel", "rows", "(II)I"⟩
theorem mk_M_rows : mOk y_M_rows prog_14_method_95_code 5 (Option.some Jvm.ClassFile.FieldType.int) 2 false := ⟨in_9 (List.mem_of_getElem? (i := 62) rfl), in_1 (List.mem_of_getElem? (i := 13) rfl), ⟨by decide +kernel, by decide +kernel, by decide +kernel⟩, by decide +kernel, by decide, ⟨in_9 (List.mem_of_getElem? (i := 60) rfl), in_9 (List.mem_of_getElem? (i := 61) rfl)⟩⟩
def y_M_weighs : MethodName := ⟨"BreathTownModel", "weighs", "(I)V"⟩
theorem mk_M_weighs : mOk y_M_weighs prog_14_method_94_code 5 (Option.none : Option Jvm.ClassFile.FieldType) 1 false := ⟨in_9 (List.mem_of_getElem? (i := 76) rfl), in_1 (List.mem_of_getElem? (i := 13) rfl), ⟨by decide +kernel, by decide +kernel, by decide +kernel⟩, by decide +kernel, by decide, ⟨in_9 (List.mem_of_getElem? (i := 75) rfl), lw_pv (i := 113) (by decide +kernel)⟩⟩
def y_M_allGo : MethodName := ⟨"BreathTownModel", "allGo", "(I)Z"⟩
theorem mk_M_allGo : mOk y_M_allGo prog_14_method_93_code 5 (Option.some Jvm.ClassFile.FieldType.boolean) 1 false := ⟨in_9 (List.mem_of_getElem? (i := 72) rfl), in_1 (List.mem_of_getElem? (i := 13) rfl), ⟨by decide +kernel, by decide +kernel, by decide +kernel⟩, by decide +kernel, by decide, ⟨in_9 (List.mem_of_getElem? (i := 71) rfl), lw_pv (i := 112) (by decide +kernel)⟩⟩
def y_M_isOrder : MethodName := ⟨"BreathTownModel", "isOrder", "(II)Z"⟩
theorem mk_M_isOrder : mOk y_M_isOrder prog_14_method_92_code 6 (Option.some Jvm.ClassFile.FieldType.boolean) 2 false := ⟨in_9 (List.mem_of_getElem? (i := 68) rfl), in_1 (List.mem_of_getElem? (i := 13) rfl), ⟨by decide +kernel, by decide +kernel, by decide +kernel⟩, by decide +kernel, by decide, ⟨in_9 (List.mem_of_getElem? (i := 67) rfl), lw_pv (i := 111) (by decide +kernel)⟩⟩
def y_BT_rows : MethodName := ⟨"BreathTown", "rows", "(II)I"⟩
theorem mk_BT_rows : mOk y_BT_rows prog_1_method_20_code 3 (Option.some Jvm.ClassFile.FieldType.int) 2 false := ⟨in_5 (List.mem_of_getElem? (i := 45) rfl), in_1 (List.mem_of_getElem? (i := 1) rfl), ⟨by decide +kernel, by decide +kernel, by decide +kernel⟩, by decide +kernel, by decide, ⟨in_5 (List.mem_of_getElem? (i := 43) rfl), in_5 (List.mem_of_getElem? (i := 44) rfl)⟩⟩
def y_Many_findOrder : MethodName := ⟨"BreathTown$Many", "findOrder", "(I)Z"⟩
theorem mk_Many_findOrder : mOk y_Many_findOrder prog_3_method_2_code 4 (Option.some Jvm.ClassFile.FieldType.boolean) 1 false := ⟨in_5 (List.mem_of_getElem? (i := 49) rfl), in_1 (List.mem_of_getElem? (i := 10) rfl), ⟨by decide +kernel, by decide +kernel, by decide +kernel⟩, by decide +kernel, by decide, ⟨in_5 (List.mem_of_getElem? (i := 47) rfl), in_5 (List.mem_of_getElem? (i := 48) rfl)⟩⟩
def y_Ways_clearBusy : MethodName := ⟨"BreathTown$Ways", "clearBusy", "()V"⟩
theorem mk_Ways_clearBusy : mOk y_Ways_clearBusy prog_11_method_5_code 1 (Option.none : Option Jvm.ClassFile.FieldType) 0 false := ⟨in_5 (List.mem_of_getElem? (i := 63) rfl), in_1 (List.mem_of_getElem? (i := 9) rfl), ⟨by decide +kernel, by decide +kernel, by decide +kernel⟩, by decide +kernel, by decide, ⟨in_5 (List.mem_of_getElem? (i := 61) rfl), in_5 (List.mem_of_getElem? (i := 62) rfl)⟩⟩
def y_Many_keepBetter : MethodName := ⟨"BreathTown$Many", "keepBetter", "(I)V"⟩
theorem mk_Many_keepBetter : mOk y_Many_keepBetter prog_3_method_5_code 5 (Option.none : Option Jvm.ClassFile.FieldType) 1 false := ⟨in_5 (List.mem_of_getElem? (i := 76) rfl), in_1 (List.mem_of_getElem? (i := 10) rfl), ⟨by decide +kernel, by decide +kernel, by decide +kernel⟩, by decide +kernel, by decide, ⟨in_5 (List.mem_of_getElem? (i := 75) rfl), lw_pv (i := 23) (by decide +kernel)⟩⟩
def y_BT_copyAll : MethodName := ⟨"BreathTown", "copyAll", "([I[I)V"⟩
theorem mk_BT_copyAll : mOk y_BT_copyAll prog_1_method_45_code 3 (Option.none : Option Jvm.ClassFile.FieldType) 2 true := ⟨in_4 (List.mem_of_getElem? (i := 52) rfl), in_1 (List.mem_of_getElem? (i := 1) rfl), ⟨by decide +kernel, by decide +kernel, by decide +kernel⟩, by decide +kernel, by decide, in_4 (List.mem_of_getElem? (i := 51) rfl)⟩
def y_Many_allArrive : MethodName := ⟨"BreathTown$Many", "allArrive", "(I)Z"⟩
theorem mk_Many_allArrive : mOk y_Many_allArrive prog_3_method_4_code 6 (Option.some Jvm.ClassFile.FieldType.boolean) 1 false := ⟨in_5 (List.mem_of_getElem? (i := 59) rfl), in_1 (List.mem_of_getElem? (i := 10) rfl), ⟨by decide +kernel, by decide +kernel, by decide +kernel⟩, by decide +kernel, by decide, ⟨in_5 (List.mem_of_getElem? (i := 58) rfl), lw_pv (i := 22) (by decide +kernel)⟩⟩
def y_Ways_occupy : MethodName := ⟨"BreathTown$Ways", "occupy", "(I)V"⟩
theorem mk_Ways_occupy : mOk y_Ways_occupy prog_11_method_6_code 3 (Option.none : Option Jvm.ClassFile.FieldType) 1 false := ⟨in_5 (List.mem_of_getElem? (i := 72) rfl), in_1 (List.mem_of_getElem? (i := 9) rfl), ⟨by decide +kernel, by decide +kernel, by decide +kernel⟩, by decide +kernel, by decide, ⟨in_5 (List.mem_of_getElem? (i := 70) rfl), in_5 (List.mem_of_getElem? (i := 71) rfl)⟩⟩
def y_Many_isOrder : MethodName := ⟨"BreathTown$Many", "isOrder", "(II)Z"⟩
theorem mk_Many_isOrder : mOk y_Many_isOrder prog_3_method_3_code 7 (Option.some Jvm.ClassFile.FieldType.boolean) 2 false := ⟨in_5 (List.mem_of_getElem? (i := 54) rfl), in_1 (List.mem_of_getElem? (i := 10) rfl), ⟨by decide +kernel, by decide +kernel, by decide +kernel⟩, by decide +kernel, by decide, ⟨in_5 (List.mem_of_getElem? (i := 53) rfl), lw_pv (i := 21) (by decide +kernel)⟩⟩
def y_M_parade : MethodName := ⟨"BreathTownModel", "parade", "(II)I"⟩
theorem mk_M_parade : mOk y_M_parade prog_14_method_91_code 4 (Option.some Jvm.ClassFile.FieldType.int) 2 false := ⟨in_9 (List.mem_of_getElem? (i := 53) rfl), in_1 (List.mem_of_getElem? (i := 13) rfl), ⟨by decide +kernel, by decide +kernel, by decide +kernel⟩, by decide +kernel, by decide, ⟨in_9 (List.mem_of_getElem? (i := 51) rfl), in_9 (List.mem_of_getElem? (i := 52) rfl)⟩⟩
def y_M_isParade : MethodName := ⟨"BreathTownModel", "isParade", "(III)Z"⟩
theorem mk_M_isParade : mOk y_M_isParade prog_14_method_90_code 7 (Option.some Jvm.ClassFile.FieldType.boolean) 3 false := ⟨in_9 (List.mem_of_getElem? (i := 58) rfl), in_1 (List.mem_of_getElem? (i := 13) rfl), ⟨by decide +kernel, by decide +kernel, by decide +kernel⟩, by decide +kernel, by decide, ⟨in_9 (List.mem_of_getElem? (i := 57) rfl), lw_pv (i := 110) (by decide +kernel)⟩⟩
def y_BT_parade : MethodName := ⟨"BreathTown", "parade", "(II)I"⟩
theorem mk_BT_parade : mOk y_BT_parade prog_1_method_19_code 3 (Option.some Jvm.ClassFile.FieldType.int) 2 false := ⟨in_5 (List.mem_of_getElem? (i := 33) rfl), in_1 (List.mem_of_getElem? (i := 1) rfl), ⟨by decide +kernel, by decide +kernel, by decide +kernel⟩, by decide +kernel, by decide, ⟨in_5 (List.mem_of_getElem? (i := 31) rfl), in_5 (List.mem_of_getElem? (i := 32) rfl)⟩⟩
def y_Ways_paradeHour : MethodName := ⟨"BreathTown$Ways", "paradeHour", "(II)I"⟩
theorem mk_Ways_paradeHour : mOk y_Ways_paradeHour prog_11_method_18_code 5 (Option.some Jvm.ClassFile.FieldType.int) 2 false := ⟨in_5 (List.mem_of_getElem? (i := 37) rfl), in_1 (List.mem_of_getElem? (i := 9) rfl), ⟨by decide +kernel, by decide +kernel, by decide +kernel⟩, by decide +kernel, by decide, ⟨in_5 (List.mem_of_getElem? (i := 35) rfl), in_5 (List.mem_of_getElem? (i := 36) rfl)⟩⟩
def y_Ways_canParade : MethodName := ⟨"BreathTown$Ways", "canParade", "(III)Z"⟩
theorem mk_Ways_canParade : mOk y_Ways_canParade prog_11_method_19_code 8 (Option.some Jvm.ClassFile.FieldType.boolean) 3 false := ⟨in_5 (List.mem_of_getElem? (i := 41) rfl), in_1 (List.mem_of_getElem? (i := 9) rfl), ⟨by decide +kernel, by decide +kernel, by decide +kernel⟩, by decide +kernel, by decide, ⟨in_5 (List.mem_of_getElem? (i := 40) rfl), lw_pv (i := 20) (by decide +kernel)⟩⟩
def y_Ways_firstNarrow : MethodName := ⟨"BreathTown$Ways", "firstNarrow", "(IIII)I"⟩
theorem mk_Ways_firstNarrow : mOk y_Ways_firstNarrow prog_11_method_16_code 6 (Option.some Jvm.ClassFile.FieldType.int) 4 false := ⟨in_5 (List.mem_of_getElem? (i := 21) rfl), in_1 (List.mem_of_getElem? (i := 9) rfl), ⟨by decide +kernel, by decide +kernel, by decide +kernel⟩, by decide +kernel, by decide, ⟨in_5 (List.mem_of_getElem? (i := 20) rfl), lw_pv (i := 19) (by decide +kernel)⟩⟩
def y_M_needed : MethodName := ⟨"BreathTownModel", "needed", "(I)I"⟩
theorem mk_M_needed : mOk y_M_needed prog_14_method_89_code 4 (Option.some Jvm.ClassFile.FieldType.int) 1 false := ⟨in_9 (List.mem_of_getElem? (i := 49) rfl), in_1 (List.mem_of_getElem? (i := 13) rfl), ⟨by decide +kernel, by decide +kernel, by decide +kernel⟩, by decide +kernel, by decide, ⟨in_9 (List.mem_of_getElem? (i := 47) rfl), in_9 (List.mem_of_getElem? (i := 48) rfl)⟩⟩
def y_BT_needed : MethodName := ⟨"BreathTown", "needed", "(I)I"⟩
theorem mk_BT_needed : mOk y_BT_needed prog_1_method_18_code 2 (Option.some Jvm.ClassFile.FieldType.int) 1 false := ⟨in_5 (List.mem_of_getElem? (i := 25) rfl), in_1 (List.mem_of_getElem? (i := 1) rfl), ⟨by decide +kernel, by decide +kernel, by decide +kernel⟩, by decide +kernel, by decide, ⟨in_5 (List.mem_of_getElem? (i := 23) rfl), in_5 (List.mem_of_getElem? (i := 24) rfl)⟩⟩
def y_Ways_neededStreets : MethodName := ⟨"BreathTown$Ways", "neededStreets", "(I)I"⟩
theorem mk_Ways_neededStreets : mOk y_Ways_neededStreets prog_11_method_17_code 5 (Option.some Jvm.ClassFile.FieldType.int) 1 false := ⟨in_5 (List.mem_of_getElem? (i := 29) rfl), in_1 (List.mem_of_getElem? (i := 9) rfl), ⟨by decide +kernel, by decide +kernel, by decide +kernel⟩, by decide +kernel, by decide, ⟨in_5 (List.mem_of_getElem? (i := 27) rfl), in_5 (List.mem_of_getElem? (i := 28) rfl)⟩⟩
def y_M_stuck : MethodName := ⟨"BreathTownModel", "stuck", "(II)I"⟩
theorem mk_M_stuck : mOk y_M_stuck prog_14_method_88_code 10 (Option.some Jvm.ClassFile.FieldType.int) 2 false := ⟨in_9 (List.mem_of_getElem? (i := 37) rfl), in_1 (List.mem_of_getElem? (i := 13) rfl), ⟨by decide +kernel, by decide +kernel, by decide +kernel⟩, by decide +kernel, by decide, ⟨in_9 (List.mem_of_getElem? (i := 35) rfl), in_9 (List.mem_of_getElem? (i := 36) rfl)⟩⟩
def y_M_shortBack : MethodName := ⟨"BreathTownModel", "shortBack", "(I)I"⟩
theorem mk_M_shortBack : mOk y_M_shortBack prog_14_method_87_code 3 (Option.some Jvm.ClassFile.FieldType.int) 1 false := ⟨in_9 (List.mem_of_getElem? (i := 45) rfl), in_1 (List.mem_of_getElem? (i := 13) rfl), ⟨by decide +kernel, by decide +kernel, by decide +kernel⟩, by decide +kernel, by decide, ⟨in_9 (List.mem_of_getElem? (i := 44) rfl), lw_pv (i := 109) (by decide +kernel)⟩⟩
def y_M_measures : MethodName := ⟨"BreathTownModel", "measures", "(I)V"⟩
theorem mk_M_measures : mOk y_M_measures prog_14_method_86_code 6 (Option.none : Option Jvm.ClassFile.FieldType) 1 false := ⟨in_9 (List.mem_of_getElem? (i := 41) rfl), in_1 (List.mem_of_getElem? (i := 13) rfl), ⟨by decide +kernel, by decide +kernel, by decide +kernel⟩, by decide +kernel, by decide, ⟨in_9 (List.mem_of_getElem? (i := 40) rfl), lw_pv (i := 108) (by decide +kernel)⟩⟩
def y_BT_stuck : MethodName := ⟨"BreathTown", "stuck", "(II)I"⟩
theorem mk_BT_stuck : mOk y_BT_stuck prog_1_method_17_code 3 (Option.some Jvm.ClassFile.FieldType.int) 2 false := ⟨in_5 (List.mem_of_getElem? (i := 13) rfl), in_1 (List.mem_of_getElem? (i := 1) rfl), ⟨by decide +kernel, by decide +kernel, by decide +kernel⟩, by decide +kernel, by decide, ⟨in_5 (List.mem_of_getElem? (i := 11) rfl), in_5 (List.mem_of_getElem? (i := 12) rfl)⟩⟩
def y_Ways_stuckAt : MethodName := ⟨"BreathTown$Ways", "stuckAt", "(II)I"⟩
theorem mk_Ways_stuckAt : mOk y_Ways_stuckAt prog_11_method_15_code 8 (Option.some Jvm.ClassFile.FieldType.int) 2 false := ⟨in_5 (List.mem_of_getElem? (i := 17) rfl), in_1 (List.mem_of_getElem? (i := 9) rfl), ⟨by decide +kernel, by decide +kernel, by decide +kernel⟩, by decide +kernel, by decide, ⟨in_5 (List.mem_of_getElem? (i := 15) rfl), in_5 (List.mem_of_getElem? (i := 16) rfl)⟩⟩
def y_M_arrival : MethodName := ⟨"BreathTownModel", "arrival", "(II)I"⟩
theorem mk_M_arrival : mOk y_M_arrival prog_14_method_85_code 3 (Option.some Jvm.ClassFile.FieldType.int) 2 false := ⟨in_9 (List.mem_of_getElem? (i := 29) rfl), in_1 (List.mem_of_getElem? (i := 13) rfl), ⟨by decide +kernel, by decide +kernel, by decide +kernel⟩, by decide +kernel, by decide, ⟨in_9 (List.mem_of_getElem? (i := 27) rfl), in_9 (List.mem_of_getElem? (i := 28) rfl)⟩⟩
def y_M_isPlace : MethodName := ⟨"BreathTownModel", "isPlace", "(I)Z"⟩
theorem mk_M_isPlace : mOk y_M_isPlace prog_14_method_46_code 2 (Option.some Jvm.ClassFile.FieldType.boolean) 1 false := ⟨in_9 (List.mem_of_getElem? (i := 33) rfl), in_1 (List.mem_of_getElem? (i := 13) rfl), ⟨by decide +kernel, by decide +kernel, by decide +kernel⟩, by decide +kernel, by decide, ⟨in_9 (List.mem_of_getElem? (i := 32) rfl), lw_pv (i := 107) (by decide +kernel)⟩⟩
def y_BT_arrival : MethodName := ⟨"BreathTown", "arrival", "(II)I"⟩
theorem mk_BT_arrival : mOk y_BT_arrival prog_1_method_16_code 3 (Option.some Jvm.ClassFile.FieldType.int) 2 false := ⟨in_5 (List.mem_of_getElem? (i := 7) rfl), in_1 (List.mem_of_getElem? (i := 1) rfl), ⟨by decide +kernel, by decide +kernel, by decide +kernel⟩, by decide +kernel, by decide, ⟨in_5 (List.mem_of_getElem? (i := 5) rfl), in_5 (List.mem_of_getElem? (i := 6) rfl)⟩⟩
def y_M_way : MethodName := ⟨"BreathTownModel", "way", "(II)I"⟩
theorem mk_M_way : mOk y_M_way prog_14_method_84_code 3 (Option.some Jvm.ClassFile.FieldType.int) 2 false := ⟨in_8 (List.mem_of_getElem? (i := 219) rfl), in_1 (List.mem_of_getElem? (i := 13) rfl), ⟨by decide +kernel, by decide +kernel, by decide +kernel⟩, by decide +kernel, by decide, ⟨in_8 (List.mem_of_getElem? (i := 217) rfl), in_8 (List.mem_of_getElem? (i := 218) rfl)⟩⟩
def y_BT_way : MethodName := ⟨"BreathTown", "way", "(II)I"⟩
theorem mk_BT_way : mOk y_BT_way prog_1_method_15_code 4 (Option.some Jvm.ClassFile.FieldType.int) 2 false := ⟨in_4 (List.mem_of_getElem? (i := 192) rfl), in_1 (List.mem_of_getElem? (i := 1) rfl), ⟨by decide +kernel, by decide +kernel, by decide +kernel⟩, by decide +kernel, by decide, ⟨in_4 (List.mem_of_getElem? (i := 190) rfl), in_4 (List.mem_of_getElem? (i := 191) rfl)⟩⟩
def y_M_wide : MethodName := ⟨"BreathTownModel", "wide", "(II)I"⟩
theorem mk_M_wide : mOk y_M_wide prog_14_method_83_code 4 (Option.some Jvm.ClassFile.FieldType.int) 2 false := ⟨in_8 (List.mem_of_getElem? (i := 211) rfl), in_1 (List.mem_of_getElem? (i := 13) rfl), ⟨by decide +kernel, by decide +kernel, by decide +kernel⟩, by decide +kernel, by decide, ⟨in_8 (List.mem_of_getElem? (i := 209) rfl), in_8 (List.mem_of_getElem? (i := 210) rfl)⟩⟩
def y_M_areWide : MethodName := ⟨"BreathTownModel", "areWide", "(III)Z"⟩
theorem mk_M_areWide : mOk y_M_areWide prog_14_method_82_code 5 (Option.some Jvm.ClassFile.FieldType.boolean) 3 false := ⟨in_8 (List.mem_of_getElem? (i := 215) rfl), in_1 (List.mem_of_getElem? (i := 13) rfl), ⟨by decide +kernel, by decide +kernel, by decide +kernel⟩, by decide +kernel, by decide, ⟨in_8 (List.mem_of_getElem? (i := 214) rfl), lw_pv (i := 95) (by decide +kernel)⟩⟩
def y_BT_wide : MethodName := ⟨"BreathTown", "wide", "(II)I"⟩
theorem mk_BT_wide : mOk y_BT_wide prog_1_method_14_code 3 (Option.some Jvm.ClassFile.FieldType.int) 2 false := ⟨in_4 (List.mem_of_getElem? (i := 178) rfl), in_1 (List.mem_of_getElem? (i := 1) rfl), ⟨by decide +kernel, by decide +kernel, by decide +kernel⟩, by decide +kernel, by decide, ⟨in_4 (List.mem_of_getElem? (i := 176) rfl), in_4 (List.mem_of_getElem? (i := 177) rfl)⟩⟩
def y_Widths_firstWide : MethodName := ⟨"BreathTown$Widths", "firstWide", "(II)I"⟩
theorem mk_Widths_firstWide : mOk y_Widths_firstWide prog_12_method_7_code 4 (Option.some Jvm.ClassFile.FieldType.int) 2 false := ⟨in_4 (List.mem_of_getElem? (i := 182) rfl), in_1 (List.mem_of_getElem? (i := 8) rfl), ⟨by decide +kernel, by decide +kernel, by decide +kernel⟩, by decide +kernel, by decide, ⟨in_4 (List.mem_of_getElem? (i := 180) rfl), in_4 (List.mem_of_getElem? (i := 181) rfl)⟩⟩
def y_Widths_areWide : MethodName := ⟨"BreathTown$Widths", "areWide", "(III)Z"⟩
theorem mk_Widths_areWide : mOk y_Widths_areWide prog_12_method_8_code 5 (Option.some Jvm.ClassFile.FieldType.boolean) 3 false := ⟨in_4 (List.mem_of_getElem? (i := 186) rfl), in_1 (List.mem_of_getElem? (i := 8) rfl), ⟨by decide +kernel, by decide +kernel, by decide +kernel⟩, by decide +kernel, by decide, ⟨in_4 (List.mem_of_getElem? (i := 185) rfl), lw_pv (i := 16) (by decide +kernel)⟩⟩
def y_M_often : MethodName := ⟨"BreathTownModel", "often", "(IIII)I"⟩
theorem mk_M_often : mOk y_M_often prog_14_method_81_code 7 (Option.some Jvm.ClassFile.FieldType.int) 4 false := ⟨in_8 (List.mem_of_getElem? (i := 206) rfl), in_1 (List.mem_of_getElem? (i := 13) rfl), ⟨by decide +kernel, by decide +kernel, by decide +kernel⟩, by decide +kernel, by decide, ⟨in_8 (List.mem_of_getElem? (i := 204) rfl), in_8 (List.mem_of_getElem? (i := 205) rfl)⟩⟩
def y_M_isHour : MethodName := ⟨"BreathTownModel", "isHour", "(I)Z"⟩
theorem mk_M_isHour : mOk y_M_isHour prog_14_method_77_code 1 (Option.some Jvm.ClassFile.FieldType.boolean) 1 true := ⟨in_8 (List.mem_of_getElem? (i := 181) rfl), in_1 (List.mem_of_getElem? (i := 13) rfl), ⟨by decide +kernel, by decide +kernel, by decide +kernel⟩, by decide +kernel, by decide, in_8 (List.mem_of_getElem? (i := 180) rfl)⟩
def y_BT_often : MethodName := ⟨"BreathTown", "often", "(IIII)I"⟩
theorem mk_BT_often : mOk y_BT_often prog_1_method_13_code 5 (Option.some Jvm.ClassFile.FieldType.int) 4 false := ⟨in_4 (List.mem_of_getElem? (i := 169) rfl), in_1 (List.mem_of_getElem? (i := 1) rfl), ⟨by decide +kernel, by decide +kernel, by decide +kernel⟩, by decide +kernel, by decide, ⟨in_4 (List.mem_of_getElem? (i := 167) rfl), in_4 (List.mem_of_getElem? (i := 168) rfl)⟩⟩
def y_Ways_passCount : MethodName := ⟨"BreathTown$Ways", "passCount", "(IIII)I"⟩
theorem mk_Ways_passCount : mOk y_Ways_passCount prog_11_method_3_code 9 (Option.some Jvm.ClassFile.FieldType.int) 4 false := ⟨in_4 (List.mem_of_getElem? (i := 173) rfl), in_1 (List.mem_of_getElem? (i := 9) rfl), ⟨by decide +kernel, by decide +kernel, by decide +kernel⟩, by decide +kernel, by decide, ⟨in_4 (List.mem_of_getElem? (i := 171) rfl), in_4 (List.mem_of_getElem? (i := 172) rfl)⟩⟩
def y_BT_isAsked : MethodName := ⟨"BreathTown", "isAsked", "(I)Z"⟩
theorem mk_BT_isAsked : mOk y_BT_isAsked prog_1_method_41_code 1 (Option.some Jvm.ClassFile.FieldType.boolean) 1 true := ⟨in_4 (List.mem_of_getElem? (i := 143) rfl), in_1 (List.mem_of_getElem? (i := 1) rfl), ⟨by decide +kernel, by decide +kernel, by decide +kernel⟩, by decide +kernel, by decide, in_4 (List.mem_of_getElem? (i := 142) rfl)⟩
def y_M_next : MethodName := ⟨"BreathTownModel", "next", "(III)I"⟩
theorem mk_M_next : mOk y_M_next prog_14_method_80_code 5 (Option.some Jvm.ClassFile.FieldType.int) 3 false := ⟨in_8 (List.mem_of_getElem? (i := 202) rfl), in_1 (List.mem_of_getElem? (i := 13) rfl), ⟨by decide +kernel, by decide +kernel, by decide +kernel⟩, by decide +kernel, by decide, ⟨in_8 (List.mem_of_getElem? (i := 200) rfl), in_8 (List.mem_of_getElem? (i := 201) rfl)⟩⟩
def y_BT_next : MethodName := ⟨"BreathTown", "next", "(III)I"⟩
theorem mk_BT_next : mOk y_BT_next prog_1_method_12_code 4 (Option.some Jvm.ClassFile.FieldType.int) 3 false := ⟨in_4 (List.mem_of_getElem? (i := 165) rfl), in_1 (List.mem_of_getElem? (i := 1) rfl), ⟨by decide +kernel, by decide +kernel, by decide +kernel⟩, by decide +kernel, by decide, ⟨in_4 (List.mem_of_getElem? (i := 163) rfl), in_4 (List.mem_of_getElem? (i := 164) rfl)⟩⟩
def y_M_passes : MethodName := ⟨"BreathTownModel", "passes", "(III)I"⟩
theorem mk_M_passes : mOk y_M_passes prog_14_method_79_code 4 (Option.some Jvm.ClassFile.FieldType.int) 3 false := ⟨in_8 (List.mem_of_getElem? (i := 186) rfl), in_1 (List.mem_of_getElem? (i := 13) rfl), ⟨by decide +kernel, by decide +kernel, by decide +kernel⟩, by decide +kernel, by decide, ⟨in_8 (List.mem_of_getElem? (i := 184) rfl), in_8 (List.mem_of_getElem? (i := 185) rfl)⟩⟩
def y_BT_passes : MethodName := ⟨"BreathTown", "passes", "(III)I"⟩
theorem mk_BT_passes : mOk y_BT_passes prog_1_method_11_code 4 (Option.some Jvm.ClassFile.FieldType.int) 3 false := ⟨in_4 (List.mem_of_getElem? (i := 148) rfl), in_1 (List.mem_of_getElem? (i := 1) rfl), ⟨by decide +kernel, by decide +kernel, by decide +kernel⟩, by decide +kernel, by decide, ⟨in_4 (List.mem_of_getElem? (i := 146) rfl), in_4 (List.mem_of_getElem? (i := 147) rfl)⟩⟩
def y_M_width : MethodName := ⟨"BreathTownModel", "width", "(II)I"⟩
theorem mk_M_width : mOk y_M_width prog_14_method_78_code 3 (Option.some Jvm.ClassFile.FieldType.int) 2 false := ⟨in_8 (List.mem_of_getElem? (i := 178) rfl), in_1 (List.mem_of_getElem? (i := 13) rfl), ⟨by decide +kernel, by decide +kernel, by decide +kernel⟩, by decide +kernel, by decide, ⟨in_8 (List.mem_of_getElem? (i := 176) rfl), in_8 (List.mem_of_getElem? (i := 177) rfl)⟩⟩
def y_BT_width : MethodName := ⟨"BreathTown", "width", "(II)I"⟩
theorem mk_BT_width : mOk y_BT_width prog_1_method_10_code 3 (Option.some Jvm.ClassFile.FieldType.int) 2 false := ⟨in_4 (List.mem_of_getElem? (i := 140) rfl), in_1 (List.mem_of_getElem? (i := 1) rfl), ⟨by decide +kernel, by decide +kernel, by decide +kernel⟩, by decide +kernel, by decide, ⟨in_4 (List.mem_of_getElem? (i := 138) rfl), in_4 (List.mem_of_getElem? (i := 139) rfl)⟩⟩
def y_M_walker : MethodName := ⟨"BreathTownModel", "walker", "(II)I"⟩
theorem mk_M_walker : mOk y_M_walker prog_14_method_76_code 3 (Option.some Jvm.ClassFile.FieldType.int) 2 false := ⟨in_8 (List.mem_of_getElem? (i := 158) rfl), in_1 (List.mem_of_getElem? (i := 13) rfl), ⟨by decide +kernel, by decide +kernel, by decide +kernel⟩, by decide +kernel, by decide, ⟨in_8 (List.mem_of_getElem? (i := 156) rfl), in_8 (List.mem_of_getElem? (i := 157) rfl)⟩⟩
def y_BT_walker : MethodName := ⟨"BreathTown", "walker", "(II)I"⟩
theorem mk_BT_walker : mOk y_BT_walker prog_1_method_9_code 3 (Option.some Jvm.ClassFile.FieldType.int) 2 false := ⟨in_4 (List.mem_of_getElem? (i := 136) rfl), in_1 (List.mem_of_getElem? (i := 1) rfl), ⟨by decide +kernel, by decide +kernel, by decide +kernel⟩, by decide +kernel, by decide, ⟨in_4 (List.mem_of_getElem? (i := 134) rfl), in_4 (List.mem_of_getElem? (i := 135) rfl)⟩⟩
def y_M_street : MethodName := ⟨"BreathTownModel", "street", "(II)I"⟩
theorem mk_M_street : mOk y_M_street prog_14_method_75_code 3 (Option.some Jvm.ClassFile.FieldType.int) 2 false := ⟨in_8 (List.mem_of_getElem? (i := 103) rfl), in_1 (List.mem_of_getElem? (i := 13) rfl), ⟨by decide +kernel, by decide +kernel, by decide +kernel⟩, by decide +kernel, by decide, ⟨in_8 (List.mem_of_getElem? (i := 101) rfl), in_8 (List.mem_of_getElem? (i := 102) rfl)⟩⟩
def y_BT_street : MethodName := ⟨"BreathTown", "street", "(II)I"⟩
theorem mk_BT_street : mOk y_BT_street prog_1_method_8_code 3 (Option.some Jvm.ClassFile.FieldType.int) 2 false := ⟨in_4 (List.mem_of_getElem? (i := 96) rfl), in_1 (List.mem_of_getElem? (i := 1) rfl), ⟨by decide +kernel, by decide +kernel, by decide +kernel⟩, by decide +kernel, by decide, ⟨in_4 (List.mem_of_getElem? (i := 94) rfl), in_4 (List.mem_of_getElem? (i := 95) rfl)⟩⟩
def y_M_letter : MethodName := ⟨"BreathTownModel", "letter", "(III)I"⟩
theorem mk_M_letter : mOk y_M_letter prog_14_method_74_code 9 (Option.some Jvm.ClassFile.FieldType.int) 3 false := ⟨in_8 (List.mem_of_getElem? (i := 97) rfl), in_1 (List.mem_of_getElem? (i := 13) rfl), ⟨by decide +kernel, by decide +kernel, by decide +kernel⟩, by decide +kernel, by decide, ⟨in_8 (List.mem_of_getElem? (i := 95) rfl), in_8 (List.mem_of_getElem? (i := 96) rfl)⟩⟩
def y_BT_letter : MethodName := ⟨"BreathTown", "letter", "(III)I"⟩
theorem mk_BT_letter : mOk y_BT_letter prog_1_method_7_code 4 (Option.some Jvm.ClassFile.FieldType.int) 3 false := ⟨in_4 (List.mem_of_getElem? (i := 88) rfl), in_1 (List.mem_of_getElem? (i := 1) rfl), ⟨by decide +kernel, by decide +kernel, by decide +kernel⟩, by decide +kernel, by decide, ⟨in_4 (List.mem_of_getElem? (i := 86) rfl), in_4 (List.mem_of_getElem? (i := 87) rfl)⟩⟩
def y_M_has : MethodName := ⟨"BreathTownModel", "has", "(I)I"⟩
theorem mk_M_has : mOk y_M_has prog_14_method_73_code 2 (Option.some Jvm.ClassFile.FieldType.int) 1 false := ⟨in_8 (List.mem_of_getElem? (i := 77) rfl), in_1 (List.mem_of_getElem? (i := 13) rfl), ⟨by decide +kernel, by decide +kernel, by decide +kernel⟩, by decide +kernel, by decide, ⟨in_8 (List.mem_of_getElem? (i := 75) rfl), in_8 (List.mem_of_getElem? (i := 76) rfl)⟩⟩
def y_M_freeMany : MethodName := ⟨"BreathTownModel", "freeMany", "()I"⟩
theorem mk_M_freeMany : mOk y_M_freeMany prog_14_method_72_code 3 (Option.some Jvm.ClassFile.FieldType.int) 0 false := ⟨in_8 (List.mem_of_getElem? (i := 93) rfl), in_1 (List.mem_of_getElem? (i := 13) rfl), ⟨by decide +kernel, by decide +kernel, by decide +kernel⟩, by decide +kernel, by decide, ⟨in_8 (List.mem_of_getElem? (i := 92) rfl), lw_pv (i := 77) (by decide +kernel)⟩⟩
def y_BT_has : MethodName := ⟨"BreathTown", "has", "(I)I"⟩
theorem mk_BT_has : mOk y_BT_has prog_1_method_6_code 2 (Option.some Jvm.ClassFile.FieldType.int) 1 false := ⟨in_4 (List.mem_of_getElem? (i := 77) rfl), in_1 (List.mem_of_getElem? (i := 1) rfl), ⟨by decide +kernel, by decide +kernel, by decide +kernel⟩, by decide +kernel, by decide, ⟨in_4 (List.mem_of_getElem? (i := 75) rfl), in_4 (List.mem_of_getElem? (i := 76) rfl)⟩⟩
def y_Now_freeWalkers : MethodName := ⟨"BreathTown$Now", "freeWalkers", "()I"⟩
theorem mk_Now_freeWalkers : mOk y_Now_freeWalkers prog_4_method_4_code 3 (Option.some Jvm.ClassFile.FieldType.int) 0 false := ⟨in_4 (List.mem_of_getElem? (i := 82) rfl), in_1 (List.mem_of_getElem? (i := 7) rfl), ⟨by decide +kernel, by decide +kernel, by decide +kernel⟩, by decide +kernel, by decide, ⟨in_4 (List.mem_of_getElem? (i := 80) rfl), in_4 (List.mem_of_getElem? (i := 81) rfl)⟩⟩
def y_M_fault : MethodName := ⟨"BreathTownModel", "fault", "(I)I"⟩
theorem mk_M_fault : mOk y_M_fault prog_14_method_37_code 2 (Option.some Jvm.ClassFile.FieldType.int) 1 false := ⟨in_8 (List.mem_of_getElem? (i := 73) rfl), in_1 (List.mem_of_getElem? (i := 13) rfl), ⟨by decide +kernel, by decide +kernel, by decide +kernel⟩, by decide +kernel, by decide, ⟨in_8 (List.mem_of_getElem? (i := 71) rfl), in_8 (List.mem_of_getElem? (i := 72) rfl)⟩⟩
def y_BT_fault : MethodName := ⟨"BreathTown", "fault", "(I)I"⟩
theorem mk_BT_fault : mOk y_BT_fault prog_1_method_5_code 2 (Option.some Jvm.ClassFile.FieldType.int) 1 false := ⟨in_4 (List.mem_of_getElem? (i := 73) rfl), in_1 (List.mem_of_getElem? (i := 1) rfl), ⟨by decide +kernel, by decide +kernel, by decide +kernel⟩, by decide +kernel, by decide, ⟨in_4 (List.mem_of_getElem? (i := 71) rfl), in_4 (List.mem_of_getElem? (i := 72) rfl)⟩⟩
def y_M_town : MethodName := ⟨"BreathTownModel", "town", "()I"⟩
theorem mk_M_town : mOk y_M_town prog_14_method_25_code 2 (Option.some Jvm.ClassFile.FieldType.int) 0 false := ⟨in_7 (List.mem_of_getElem? (i := 182) rfl), in_1 (List.mem_of_getElem? (i := 13) rfl), ⟨by decide +kernel, by decide +kernel, by decide +kernel⟩, by decide +kernel, by decide, ⟨in_7 (List.mem_of_getElem? (i := 180) rfl), in_7 (List.mem_of_getElem? (i := 181) rfl)⟩⟩
def y_M_stands : MethodName := ⟨"BreathTownModel", "stands", "()V"⟩
theorem mk_M_stands : mOk y_M_stands prog_14_method_26_code 2 (Option.none : Option Jvm.ClassFile.FieldType) 0 false := ⟨in_8 (List.mem_of_getElem? (i := 69) rfl), in_1 (List.mem_of_getElem? (i := 13) rfl), ⟨by decide +kernel, by decide +kernel, by decide +kernel⟩, by decide +kernel, by decide, ⟨in_8 (List.mem_of_getElem? (i := 68) rfl), lw_pv (i := 73) (by decide +kernel)⟩⟩
def y_M_statementTold : MethodName := ⟨"BreathTownModel", "statementTold", "()V"⟩
theorem mk_M_statementTold : mOk y_M_statementTold prog_14_method_24_code 2 (Option.none : Option Jvm.ClassFile.FieldType) 0 false := ⟨in_7 (List.mem_of_getElem? (i := 190) rfl), in_1 (List.mem_of_getElem? (i := 13) rfl), ⟨by decide +kernel, by decide +kernel, by decide +kernel⟩, by decide +kernel, by decide, ⟨in_7 (List.mem_of_getElem? (i := 189) rfl), lw_pv (i := 46) (by decide +kernel)⟩⟩
def y_M_newWalker : MethodName := ⟨"BreathTownModel", "newWalker", "(I)V"⟩
theorem mk_M_newWalker : mOk y_M_newWalker prog_14_method_23_code 8 (Option.none : Option Jvm.ClassFile.FieldType) 1 false := ⟨in_8 (List.mem_of_getElem? (i := 65) rfl), in_1 (List.mem_of_getElem? (i := 13) rfl), ⟨by decide +kernel, by decide +kernel, by decide +kernel⟩, by decide +kernel, by decide, ⟨in_8 (List.mem_of_getElem? (i := 64) rfl), lw_pv (i := 72) (by decide +kernel)⟩⟩
def y_M_placeTold : MethodName := ⟨"BreathTownModel", "placeTold", "(I)I"⟩
theorem mk_M_placeTold : mOk y_M_placeTold prog_14_method_20_code 5 (Option.some Jvm.ClassFile.FieldType.int) 1 false := ⟨in_8 (List.mem_of_getElem? (i := 3) rfl), in_1 (List.mem_of_getElem? (i := 13) rfl), ⟨by decide +kernel, by decide +kernel, by decide +kernel⟩, by decide +kernel, by decide, ⟨in_8 (List.mem_of_getElem? (i := 2) rfl), lw_pv (i := 58) (by decide +kernel)⟩⟩
def y_M_nameOf : MethodName := ⟨"BreathTownModel", "nameOf", "(IJ)I"⟩
theorem mk_M_nameOf : mOk y_M_nameOf prog_14_method_18_code 5 (Option.some Jvm.ClassFile.FieldType.int) 2 false := ⟨in_7 (List.mem_of_getElem? (i := 231) rfl), in_1 (List.mem_of_getElem? (i := 13) rfl), ⟨by decide +kernel, by decide +kernel, by decide +kernel⟩, by decide +kernel, by decide, ⟨in_7 (List.mem_of_getElem? (i := 230) rfl), lw_pv (i := 55) (by decide +kernel)⟩⟩
def y_M_name : MethodName := ⟨"BreathTownModel", "name", "()J"⟩
theorem mk_M_name : mOk y_M_name prog_14_method_16_code 3 (Option.some Jvm.ClassFile.FieldType.long) 0 false := ⟨in_7 (List.mem_of_getElem? (i := 221) rfl), in_1 (List.mem_of_getElem? (i := 13) rfl), ⟨by decide +kernel, by decide +kernel, by decide +kernel⟩, by decide +kernel, by decide, ⟨in_7 (List.mem_of_getElem? (i := 220) rfl), lw_pv (i := 53) (by decide +kernel)⟩⟩
def y_M_isOwnHere : MethodName := ⟨"BreathTownModel", "isOwnHere", "()Z"⟩
theorem mk_M_isOwnHere : mOk y_M_isOwnHere prog_14_method_15_code 2 (Option.some Jvm.ClassFile.FieldType.boolean) 0 false := ⟨in_7 (List.mem_of_getElem? (i := 225) rfl), in_1 (List.mem_of_getElem? (i := 13) rfl), ⟨by decide +kernel, by decide +kernel, by decide +kernel⟩, by decide +kernel, by decide, ⟨in_7 (List.mem_of_getElem? (i := 224) rfl), lw_pv (i := 54) (by decide +kernel)⟩⟩
def y_M_newName : MethodName := ⟨"BreathTownModel", "newName", "()J"⟩
theorem mk_M_newName : mOk y_M_newName prog_14_method_19_code 4 (Option.some Jvm.ClassFile.FieldType.long) 0 false := ⟨in_7 (List.mem_of_getElem? (i := 217) rfl), in_1 (List.mem_of_getElem? (i := 13) rfl), ⟨by decide +kernel, by decide +kernel, by decide +kernel⟩, by decide +kernel, by decide, ⟨in_7 (List.mem_of_getElem? (i := 216) rfl), lw_pv (i := 52) (by decide +kernel)⟩⟩
def y_M_isFull : MethodName := ⟨"BreathTownModel", "isFull", "(III)Z"⟩
theorem mk_M_isFull : mOk y_M_isFull prog_14_method_17_code 4 (Option.some Jvm.ClassFile.FieldType.boolean) 3 false := ⟨in_7 (List.mem_of_getElem? (i := 213) rfl), in_1 (List.mem_of_getElem? (i := 13) rfl), ⟨by decide +kernel, by decide +kernel, by decide +kernel⟩, by decide +kernel, by decide, ⟨in_7 (List.mem_of_getElem? (i := 212) rfl), lw_pv (i := 51) (by decide +kernel)⟩⟩
def y_M_newStreet : MethodName := ⟨"BreathTownModel", "newStreet", "(I)V"⟩
theorem mk_M_newStreet : mOk y_M_newStreet prog_14_method_22_code 10 (Option.none : Option Jvm.ClassFile.FieldType) 1 false := ⟨in_7 (List.mem_of_getElem? (i := 235) rfl), in_1 (List.mem_of_getElem? (i := 13) rfl), ⟨by decide +kernel, by decide +kernel, by decide +kernel⟩, by decide +kernel, by decide, ⟨in_7 (List.mem_of_getElem? (i := 234) rfl), lw_pv (i := 56) (by decide +kernel)⟩⟩
def y_M_sumsTold : MethodName := ⟨"BreathTownModel", "sumsTold", "()V"⟩
theorem mk_M_sumsTold : mOk y_M_sumsTold prog_14_method_36_code 3 (Option.none : Option Jvm.ClassFile.FieldType) 0 false := ⟨in_8 (List.mem_of_getElem? (i := 17) rfl), in_1 (List.mem_of_getElem? (i := 13) rfl), ⟨by decide +kernel, by decide +kernel, by decide +kernel⟩, by decide +kernel, by decide, ⟨in_8 (List.mem_of_getElem? (i := 16) rfl), lw_pv (i := 60) (by decide +kernel)⟩⟩
def y_M_drops : MethodName := ⟨"BreathTownModel", "drops", "()V"⟩
theorem mk_M_drops : mOk y_M_drops prog_14_method_30_code 1 (Option.none : Option Jvm.ClassFile.FieldType) 0 false := ⟨in_8 (List.mem_of_getElem? (i := 57) rfl), in_1 (List.mem_of_getElem? (i := 13) rfl), ⟨by decide +kernel, by decide +kernel, by decide +kernel⟩, by decide +kernel, by decide, ⟨in_8 (List.mem_of_getElem? (i := 56) rfl), lw_pv (i := 70) (by decide +kernel)⟩⟩
def y_M_code : MethodName := ⟨"BreathTownModel", "code", "(I)V"⟩
theorem mk_M_code : mOk y_M_code prog_14_method_27_code 2 (Option.none : Option Jvm.ClassFile.FieldType) 1 false := ⟨in_8 (List.mem_of_getElem? (i := 37) rfl), in_1 (List.mem_of_getElem? (i := 13) rfl), ⟨by decide +kernel, by decide +kernel, by decide +kernel⟩, by decide +kernel, by decide, ⟨in_8 (List.mem_of_getElem? (i := 36) rfl), lw_pv (i := 65) (by decide +kernel)⟩⟩
def y_M_goesOn : MethodName := ⟨"BreathTownModel", "goesOn", "()Z"⟩
theorem mk_M_goesOn : mOk y_M_goesOn prog_14_method_35_code 2 (Option.some Jvm.ClassFile.FieldType.boolean) 0 false := ⟨in_8 (List.mem_of_getElem? (i := 41) rfl), in_1 (List.mem_of_getElem? (i := 13) rfl), ⟨by decide +kernel, by decide +kernel, by decide +kernel⟩, by decide +kernel, by decide, ⟨in_8 (List.mem_of_getElem? (i := 40) rfl), lw_pv (i := 66) (by decide +kernel)⟩⟩
def y_M_waitsLast : MethodName := ⟨"BreathTownModel", "waitsLast", "()I"⟩
theorem mk_M_waitsLast : mOk y_M_waitsLast prog_14_method_32_code 2 (Option.some Jvm.ClassFile.FieldType.int) 0 false := ⟨in_8 (List.mem_of_getElem? (i := 45) rfl), in_1 (List.mem_of_getElem? (i := 13) rfl), ⟨by decide +kernel, by decide +kernel, by decide +kernel⟩, by decide +kernel, by decide, ⟨in_8 (List.mem_of_getElem? (i := 44) rfl), lw_pv (i := 67) (by decide +kernel)⟩⟩
def y_M_isMark : MethodName := ⟨"BreathTownModel", "isMark", "(I)Z"⟩
theorem mk_M_isMark : mOk y_M_isMark prog_14_method_31_code 2 (Option.some Jvm.ClassFile.FieldType.boolean) 1 false := ⟨in_8 (List.mem_of_getElem? (i := 49) rfl), in_1 (List.mem_of_getElem? (i := 13) rfl), ⟨by decide +kernel, by decide +kernel, by decide +kernel⟩, by decide +kernel, by decide, ⟨in_8 (List.mem_of_getElem? (i := 48) rfl), lw_pv (i := 68) (by decide +kernel)⟩⟩
def y_M_dropsToMark : MethodName := ⟨"BreathTownModel", "dropsToMark", "()V"⟩
theorem mk_M_dropsToMark : mOk y_M_dropsToMark prog_14_method_33_code 1 (Option.none : Option Jvm.ClassFile.FieldType) 0 false := ⟨in_8 (List.mem_of_getElem? (i := 53) rfl), in_1 (List.mem_of_getElem? (i := 13) rfl), ⟨by decide +kernel, by decide +kernel, by decide +kernel⟩, by decide +kernel, by decide, ⟨in_8 (List.mem_of_getElem? (i := 52) rfl), lw_pv (i := 69) (by decide +kernel)⟩⟩
def y_M_isOn : MethodName := ⟨"BreathTownModel", "isOn", "(I)Z"⟩
theorem mk_M_isOn : mOk y_M_isOn prog_14_method_29_code 2 (Option.some Jvm.ClassFile.FieldType.boolean) 1 false := ⟨in_8 (List.mem_of_getElem? (i := 61) rfl), in_1 (List.mem_of_getElem? (i := 13) rfl), ⟨by decide +kernel, by decide +kernel, by decide +kernel⟩, by decide +kernel, by decide, ⟨in_8 (List.mem_of_getElem? (i := 60) rfl), lw_pv (i := 71) (by decide +kernel)⟩⟩
def y_M_onePart : MethodName := ⟨"BreathTownModel", "onePart", "()V"⟩
theorem mk_M_onePart : mOk y_M_onePart prog_14_method_34_code 5 (Option.none : Option Jvm.ClassFile.FieldType) 0 false := ⟨in_8 (List.mem_of_getElem? (i := 21) rfl), in_1 (List.mem_of_getElem? (i := 13) rfl), ⟨by decide +kernel, by decide +kernel, by decide +kernel⟩, by decide +kernel, by decide, ⟨in_8 (List.mem_of_getElem? (i := 20) rfl), lw_pv (i := 61) (by decide +kernel)⟩⟩
def y_M_opens : MethodName := ⟨"BreathTownModel", "opens", "(II)V"⟩
theorem mk_M_opens : mOk y_M_opens prog_14_method_28_code 3 (Option.none : Option Jvm.ClassFile.FieldType) 2 false := ⟨in_8 (List.mem_of_getElem? (i := 25) rfl), in_1 (List.mem_of_getElem? (i := 13) rfl), ⟨by decide +kernel, by decide +kernel, by decide +kernel⟩, by decide +kernel, by decide, ⟨in_8 (List.mem_of_getElem? (i := 24) rfl), lw_pv (i := 62) (by decide +kernel)⟩⟩
def y_M_newPlace : MethodName := ⟨"BreathTownModel", "newPlace", "(I)V"⟩
theorem mk_M_newPlace : mOk y_M_newPlace prog_14_method_21_code 4 (Option.none : Option Jvm.ClassFile.FieldType) 1 false := ⟨in_7 (List.mem_of_getElem? (i := 209) rfl), in_1 (List.mem_of_getElem? (i := 13) rfl), ⟨by decide +kernel, by decide +kernel, by decide +kernel⟩, by decide +kernel, by decide, ⟨in_7 (List.mem_of_getElem? (i := 208) rfl), lw_pv (i := 50) (by decide +kernel)⟩⟩
def y_BT_town : MethodName := ⟨"BreathTown", "town", "()I"⟩
theorem mk_BT_town : mOk y_BT_town prog_1_method_4_code 2 (Option.some Jvm.ClassFile.FieldType.int) 0 false := ⟨in_3 (List.mem_of_getElem? (i := 38) rfl), in_1 (List.mem_of_getElem? (i := 1) rfl), ⟨by decide +kernel, by decide +kernel, by decide +kernel⟩, by decide +kernel, by decide, ⟨in_3 (List.mem_of_getElem? (i := 36) rfl), in_3 (List.mem_of_getElem? (i := 37) rfl)⟩⟩
def y_Widths_forget : MethodName := ⟨"BreathTown$Widths", "forget", "()V"⟩
theorem mk_Widths_forget : mOk y_Widths_forget prog_12_method_2_code 1 (Option.none : Option Jvm.ClassFile.FieldType) 0 false := ⟨in_4 (List.mem_of_getElem? (i := 68) rfl), in_1 (List.mem_of_getElem? (i := 8) rfl), ⟨by decide +kernel, by decide +kernel, by decide +kernel⟩, by decide +kernel, by decide, ⟨in_4 (List.mem_of_getElem? (i := 66) rfl), in_4 (List.mem_of_getElem? (i := 67) rfl)⟩⟩
def y_Now_begin : MethodName := ⟨"BreathTown$Now", "begin", "()V"⟩
theorem mk_Now_begin : mOk y_Now_begin prog_4_method_2_code 1 (Option.none : Option Jvm.ClassFile.FieldType) 0 false := ⟨in_4 (List.mem_of_getElem? (i := 62) rfl), in_1 (List.mem_of_getElem? (i := 7) rfl), ⟨by decide +kernel, by decide +kernel, by decide +kernel⟩, by decide +kernel, by decide, ⟨in_4 (List.mem_of_getElem? (i := 60) rfl), in_4 (List.mem_of_getElem? (i := 61) rfl)⟩⟩
def y_Told_copy : MethodName := ⟨"BreathTown$Told", "copy", "(LBreathTown$Told;)V"⟩
theorem mk_Told_copy : mOk y_Told_copy prog_9_method_3_code 2 (Option.none : Option Jvm.ClassFile.FieldType) 1 false := ⟨in_4 (List.mem_of_getElem? (i := 49) rfl), in_1 (List.mem_of_getElem? (i := 3) rfl), ⟨by decide +kernel, by decide +kernel, by decide +kernel⟩, by decide +kernel, by decide, ⟨in_4 (List.mem_of_getElem? (i := 47) rfl), in_4 (List.mem_of_getElem? (i := 48) rfl)⟩⟩
def y_Code_copy : MethodName := ⟨"BreathTown$Code", "copy", "(LBreathTown$Code;)V"⟩
theorem mk_Code_copy : mOk y_Code_copy prog_2_method_5_code 3 (Option.none : Option Jvm.ClassFile.FieldType) 1 false := ⟨in_4 (List.mem_of_getElem? (i := 56) rfl), in_1 (List.mem_of_getElem? (i := 4) rfl), ⟨by decide +kernel, by decide +kernel, by decide +kernel⟩, by decide +kernel, by decide, ⟨in_4 (List.mem_of_getElem? (i := 54) rfl), in_4 (List.mem_of_getElem? (i := 55) rfl)⟩⟩
def y_TownR_read : MethodName := ⟨"BreathTown$TownReader", "read", "()I"⟩
theorem mk_TownR_read : mOk y_TownR_read prog_10_method_2_code 3 (Option.some Jvm.ClassFile.FieldType.int) 0 false := ⟨in_3 (List.mem_of_getElem? (i := 42) rfl), in_1 (List.mem_of_getElem? (i := 5) rfl), ⟨by decide +kernel, by decide +kernel, by decide +kernel⟩, by decide +kernel, by decide, ⟨in_3 (List.mem_of_getElem? (i := 40) rfl), in_3 (List.mem_of_getElem? (i := 41) rfl)⟩⟩
def y_TownR_beginTold : MethodName := ⟨"BreathTown$TownReader", "beginTold", "()Z"⟩
theorem mk_TownR_beginTold : mOk y_TownR_beginTold prog_10_method_3_code 1 (Option.some Jvm.ClassFile.FieldType.boolean) 0 false := ⟨in_4 (List.mem_of_getElem? (i := 39) rfl), in_1 (List.mem_of_getElem? (i := 5) rfl), ⟨by decide +kernel, by decide +kernel, by decide +kernel⟩, by decide +kernel, by decide, ⟨in_4 (List.mem_of_getElem? (i := 38) rfl), lw_pv (i := 13) (by decide +kernel)⟩⟩
def y_TownR_walkerTold : MethodName := ⟨"BreathTown$TownReader", "walkerTold", "()Z"⟩
theorem mk_TownR_walkerTold : mOk y_TownR_walkerTold prog_10_method_6_code 2 (Option.some Jvm.ClassFile.FieldType.boolean) 0 false := ⟨in_4 (List.mem_of_getElem? (i := 33) rfl), in_1 (List.mem_of_getElem? (i := 5) rfl), ⟨by decide +kernel, by decide +kernel, by decide +kernel⟩, by decide +kernel, by decide, ⟨in_4 (List.mem_of_getElem? (i := 32) rfl), lw_pv (i := 12) (by decide +kernel)⟩⟩
def y_TownR_placeAsked : MethodName := ⟨"BreathTown$TownReader", "placeAsked", "(Ljava/lang/String;I[II)Z"⟩
theorem mk_TownR_placeAsked : mOk y_TownR_placeAsked prog_10_method_7_code 7 (Option.some Jvm.ClassFile.FieldType.boolean) 4 false := ⟨in_3 (List.mem_of_getElem? (i := 180) rfl), in_1 (List.mem_of_getElem? (i := 5) rfl), ⟨by decide +kernel, by decide +kernel, by decide +kernel⟩, by decide +kernel, by decide, ⟨in_3 (List.mem_of_getElem? (i := 179) rfl), lw_pv (i := 3) (by decide +kernel)⟩⟩
def y_Told_named : MethodName := ⟨"BreathTown$Told", "named", "(II)I"⟩
theorem mk_Told_named : mOk y_Told_named prog_9_method_6_code 4 (Option.some Jvm.ClassFile.FieldType.int) 2 false := ⟨in_3 (List.mem_of_getElem? (i := 164) rfl), in_1 (List.mem_of_getElem? (i := 3) rfl), ⟨by decide +kernel, by decide +kernel, by decide +kernel⟩, by decide +kernel, by decide, ⟨in_3 (List.mem_of_getElem? (i := 162) rfl), in_3 (List.mem_of_getElem? (i := 163) rfl)⟩⟩
def y_Scan_name : MethodName := ⟨"BreathTown$Scan", "name", "()I"⟩
theorem mk_Scan_name : mOk y_Scan_name prog_7_method_18_code 3 (Option.some Jvm.ClassFile.FieldType.int) 0 false := ⟨in_3 (List.mem_of_getElem? (i := 147) rfl), in_1 (List.mem_of_getElem? (i := 2) rfl), ⟨by decide +kernel, by decide +kernel, by decide +kernel⟩, by decide +kernel, by decide, ⟨in_3 (List.mem_of_getElem? (i := 145) rfl), in_3 (List.mem_of_getElem? (i := 146) rfl)⟩⟩
def y_Scan_isOwnWord : MethodName := ⟨"BreathTown$Scan", "isOwnWord", "(I)Z"⟩
theorem mk_Scan_isOwnWord : mOk y_Scan_isOwnWord prog_7_method_19_code 5 (Option.some Jvm.ClassFile.FieldType.boolean) 1 true := ⟨in_3 (List.mem_of_getElem? (i := 155) rfl), in_1 (List.mem_of_getElem? (i := 2) rfl), ⟨by decide +kernel, by decide +kernel, by decide +kernel⟩, by decide +kernel, by decide, in_3 (List.mem_of_getElem? (i := 154) rfl)⟩
def y_TownR_numberAsked : MethodName := ⟨"BreathTown$TownReader", "numberAsked", "(Ljava/lang/String;II[II)Z"⟩
theorem mk_TownR_numberAsked : mOk y_TownR_numberAsked prog_10_method_8_code 7 (Option.some Jvm.ClassFile.FieldType.boolean) 5 false := ⟨in_3 (List.mem_of_getElem? (i := 190) rfl), in_1 (List.mem_of_getElem? (i := 5) rfl), ⟨by decide +kernel, by decide +kernel, by decide +kernel⟩, by decide +kernel, by decide, ⟨in_3 (List.mem_of_getElem? (i := 189) rfl), lw_pv (i := 4) (by decide +kernel)⟩⟩
def y_TownR_newName : MethodName := ⟨"BreathTown$TownReader", "newName", "(Ljava/lang/String;II)I"⟩
theorem mk_TownR_newName : mOk y_TownR_newName prog_10_method_4_code 5 (Option.some Jvm.ClassFile.FieldType.int) 3 false := ⟨in_3 (List.mem_of_getElem? (i := 133) rfl), in_1 (List.mem_of_getElem? (i := 5) rfl), ⟨by decide +kernel, by decide +kernel, by decide +kernel⟩, by decide +kernel, by decide, ⟨in_3 (List.mem_of_getElem? (i := 132) rfl), lw_pv (i := 1) (by decide +kernel)⟩⟩
def y_Told_enter : MethodName := ⟨"BreathTown$Told", "enter", "(II)I"⟩
theorem mk_Told_enter : mOk y_Told_enter prog_9_method_8_code 4 (Option.some Jvm.ClassFile.FieldType.int) 2 false := ⟨in_3 (List.mem_of_getElem? (i := 168) rfl), in_1 (List.mem_of_getElem? (i := 3) rfl), ⟨by decide +kernel, by decide +kernel, by decide +kernel⟩, by decide +kernel, by decide, ⟨in_3 (List.mem_of_getElem? (i := 166) rfl), in_3 (List.mem_of_getElem? (i := 167) rfl)⟩⟩
def y_Told_knows : MethodName := ⟨"BreathTown$Told", "knows", "(I)Z"⟩
theorem mk_Told_knows : mOk y_Told_knows prog_9_method_7_code 2 (Option.some Jvm.ClassFile.FieldType.boolean) 1 false := ⟨in_3 (List.mem_of_getElem? (i := 160) rfl), in_1 (List.mem_of_getElem? (i := 3) rfl), ⟨by decide +kernel, by decide +kernel, by decide +kernel⟩, by decide +kernel, by decide, ⟨in_3 (List.mem_of_getElem? (i := 158) rfl), in_3 (List.mem_of_getElem? (i := 159) rfl)⟩⟩
def y_TownR_streetTold : MethodName := ⟨"BreathTown$TownReader", "streetTold", "()Z"⟩
theorem mk_TownR_streetTold : mOk y_TownR_streetTold prog_10_method_5_code 4 (Option.some Jvm.ClassFile.FieldType.boolean) 0 false := ⟨in_3 (List.mem_of_getElem? (i := 175) rfl), in_1 (List.mem_of_getElem? (i := 5) rfl), ⟨by decide +kernel, by decide +kernel, by decide +kernel⟩, by decide +kernel, by decide, ⟨in_3 (List.mem_of_getElem? (i := 174) rfl), lw_pv (i := 2) (by decide +kernel)⟩⟩
def y_Told_clear : MethodName := ⟨"BreathTown$Told", "clear", "()V"⟩
theorem mk_Told_clear : mOk y_Told_clear prog_9_method_2_code 1 (Option.none : Option Jvm.ClassFile.FieldType) 0 false := ⟨in_3 (List.mem_of_getElem? (i := 50) rfl), in_1 (List.mem_of_getElem? (i := 3) rfl), ⟨by decide +kernel, by decide +kernel, by decide +kernel⟩, by decide +kernel, by decide, ⟨in_3 (List.mem_of_getElem? (i := 48) rfl), in_3 (List.mem_of_getElem? (i := 49) rfl)⟩⟩
def y_M_end : MethodName := ⟨"BreathTownModel", "end", "(I)Z"⟩
theorem mk_M_end : mOk y_M_end prog_14_method_4_code 2 (Option.some Jvm.ClassFile.FieldType.boolean) 1 false := ⟨in_7 (List.mem_of_getElem? (i := 178) rfl), in_1 (List.mem_of_getElem? (i := 13) rfl), ⟨by decide +kernel, by decide +kernel, by decide +kernel⟩, by decide +kernel, by decide, ⟨in_7 (List.mem_of_getElem? (i := 176) rfl), in_7 (List.mem_of_getElem? (i := 177) rfl)⟩⟩
def y_BT_end : MethodName := ⟨"BreathTown", "end", "(I)Z"⟩
theorem mk_BT_end : mOk y_BT_end prog_1_method_3_code 2 (Option.some Jvm.ClassFile.FieldType.boolean) 1 false := ⟨in_3 (List.mem_of_getElem? (i := 34) rfl), in_1 (List.mem_of_getElem? (i := 1) rfl), ⟨by decide +kernel, by decide +kernel, by decide +kernel⟩, by decide +kernel, by decide, ⟨in_3 (List.mem_of_getElem? (i := 32) rfl), in_3 (List.mem_of_getElem? (i := 33) rfl)⟩⟩
def y_M_feed : MethodName := ⟨"BreathTownModel", "feed", "(IIIII)I"⟩
theorem mk_M_feed : mOk y_M_feed prog_14_method_3_code 8 (Option.some Jvm.ClassFile.FieldType.int) 5 false := ⟨in_7 (List.mem_of_getElem? (i := 174) rfl), in_1 (List.mem_of_getElem? (i := 13) rfl), ⟨by decide +kernel, by decide +kernel, by decide +kernel⟩, by decide +kernel, by decide, ⟨in_7 (List.mem_of_getElem? (i := 172) rfl), in_7 (List.mem_of_getElem? (i := 173) rfl)⟩⟩
def y_BT_feed : MethodName := ⟨"BreathTown", "feed", "(IIIII)I"⟩
theorem mk_BT_feed : mOk y_BT_feed prog_1_method_2_code 6 (Option.some Jvm.ClassFile.FieldType.int) 5 false := ⟨in_3 (List.mem_of_getElem? (i := 15) rfl), in_1 (List.mem_of_getElem? (i := 1) rfl), ⟨by decide +kernel, by decide +kernel, by decide +kernel⟩, by decide +kernel, by decide, ⟨in_3 (List.mem_of_getElem? (i := 13) rfl), in_3 (List.mem_of_getElem? (i := 14) rfl)⟩⟩
def y_Scan_append : MethodName := ⟨"BreathTown$Scan", "append", "(I)V"⟩
theorem mk_Scan_append : mOk y_Scan_append prog_7_method_2_code 3 (Option.none : Option Jvm.ClassFile.FieldType) 1 false := ⟨in_3 (List.mem_of_getElem? (i := 29) rfl), in_1 (List.mem_of_getElem? (i := 2) rfl), ⟨by decide +kernel, by decide +kernel, by decide +kernel⟩, by decide +kernel, by decide, ⟨in_3 (List.mem_of_getElem? (i := 27) rfl), in_3 (List.mem_of_getElem? (i := 28) rfl)⟩⟩
theorem lk_Law_13 : lnkOk "BreathTownLaw" 13 y_BT_feed := Or.inl (in_3 (List.mem_of_getElem? (i := 12) rfl))
theorem lk_BT_105 : lnkOk "BreathTown" 105 y_BT_refused := Or.inl (in_3 (List.mem_of_getElem? (i := 16) rfl))
theorem lk_BT_150 : lnkOk "BreathTown" 150 y_BT_cell := Or.inl (in_3 (List.mem_of_getElem? (i := 20) rfl))
theorem lk_BT_305 : lnkOk "BreathTown" 305 y_BT_setCell := Or.inl (in_3 (List.mem_of_getElem? (i := 23) rfl))
theorem lk_BT_109 : lnkOk "BreathTown" 109 y_Scan_append := Or.inl (in_3 (List.mem_of_getElem? (i := 26) rfl))
theorem lk_Scan_19 : lnkOk "BreathTown$Scan" 19 y_BT_setCell := Or.inr ⟨"BreathTown", in_3 (List.mem_of_getElem? (i := 30) rfl)⟩
theorem lk_Law_18 : lnkOk "BreathTownLaw" 18 y_BT_end := Or.inl (in_3 (List.mem_of_getElem? (i := 31) rfl))
theorem lk_Law_23 : lnkOk "BreathTownLaw" 23 y_BT_town := Or.inl (in_3 (List.mem_of_getElem? (i := 35) rfl))
theorem lk_BT_113 : lnkOk "BreathTown" 113 y_TownR_read := Or.inl (in_3 (List.mem_of_getElem? (i := 39) rfl))
theorem lk_TownR_33 : lnkOk "BreathTown$TownReader" 33 y_Scan_start := Or.inl (in_3 (List.mem_of_getElem? (i := 43) rfl))
theorem lk_TownR_38 : lnkOk "BreathTown$TownReader" 38 y_Told_clear := Or.inl (in_3 (List.mem_of_getElem? (i := 47) rfl))
theorem lk_Told_55 : lnkOk "BreathTown$Told" 55 y_BT_fill := Or.inr ⟨"BreathTown", in_3 (List.mem_of_getElem? (i := 51) rfl)⟩
theorem lk_Told_59 : lnkOk "BreathTown$Told" 59 y_Code_clear := Or.inl (in_3 (List.mem_of_getElem? (i := 54) rfl))
theorem lk_TownR_41 : lnkOk "BreathTown$TownReader" 41 y_Scan_atEnd := Or.inl (in_3 (List.mem_of_getElem? (i := 58) rfl))
theorem lk_Scan_38 : lnkOk "BreathTown$Scan" 38 y_Scan_skip := Or.inl (in_3 (List.mem_of_getElem? (i := 62) rfl))
theorem lk_TownR_49 : lnkOk "BreathTown$TownReader" 49 y_Scan_fail := Or.inl (in_3 (List.mem_of_getElem? (i := 66) rfl))
theorem lk_TownR_54 : lnkOk "BreathTown$TownReader" 54 y_Scan_atWord := Or.inl (in_3 (List.mem_of_getElem? (i := 71) rfl))
theorem lk_Scan_57 : lnkOk "BreathTown$Scan" 57 y_Str_length := Or.inl (in_3 (List.mem_of_getElem? (i := 75) rfl))
theorem lk_Str_335 : lnkOk "java/lang/String" 335 y_Str_coder := Or.inl (in_3 (List.mem_of_getElem? (i := 79) rfl))
theorem lk_Scan_45 : lnkOk "BreathTown$Scan" 45 y_Scan_byteAt := Or.inl (in_3 (List.mem_of_getElem? (i := 85) rfl))
theorem lk_Scan_62 : lnkOk "BreathTown$Scan" 62 y_Scan_isLetter := Or.inl (in_3 (List.mem_of_getElem? (i := 89) rfl))
theorem lk_Scan_65 : lnkOk "BreathTown$Scan" 65 y_Str_charAt := Or.inl (in_3 (List.mem_of_getElem? (i := 92) rfl))
theorem lk_Str_492 : lnkOk "java/lang/String" 492 y_Str_isLatin1 := Or.inl (in_3 (List.mem_of_getElem? (i := 96) rfl))
theorem lk_Str_495 : lnkOk "java/lang/String" 495 y_Lat_charAt := Or.inl (in_3 (List.mem_of_getElem? (i := 100) rfl))
theorem lk_Lat_9 : lnkOk "java/lang/StringLatin1" 9 y_Str_checkIndex := Or.inl (in_3 (List.mem_of_getElem? (i := 103) rfl))
theorem lk_Str_1059 : lnkOk "java/lang/String" 1059 y_Prec_checkIndex := Or.inl (in_3 (List.mem_of_getElem? (i := 108) rfl))
theorem lk_U16_414 : lnkOk "java/lang/StringUTF16" 414 y_Str_checkIndex := Or.inl (in_3 (List.mem_of_getElem? (i := 120) rfl))
theorem lk_TownR_58 : lnkOk "BreathTown$TownReader" 58 y_TownR_newName := Or.inl (in_3 (List.mem_of_getElem? (i := 130) rfl))
theorem lk_TownR_93 : lnkOk "BreathTown$TownReader" 93 y_Told_count := Or.inl (in_3 (List.mem_of_getElem? (i := 134) rfl))
theorem lk_Told_74 : lnkOk "BreathTown$Told" 74 y_BT_cell := Or.inr ⟨"BreathTown", in_3 (List.mem_of_getElem? (i := 138) rfl)⟩
theorem lk_TownR_81 : lnkOk "BreathTown$TownReader" 81 y_Scan_takeWord := Or.inl (in_3 (List.mem_of_getElem? (i := 139) rfl))
theorem lk_Scan_69 : lnkOk "BreathTown$Scan" 69 y_Scan_atWord := Or.inl (in_3 (List.mem_of_getElem? (i := 143) rfl))
theorem lk_TownR_97 : lnkOk "BreathTown$TownReader" 97 y_Scan_name := Or.inl (in_3 (List.mem_of_getElem? (i := 144) rfl))
theorem lk_Scan_53 : lnkOk "BreathTown$Scan" 53 y_Scan_unexpected := Or.inl (in_3 (List.mem_of_getElem? (i := 148) rfl))
theorem lk_Scan_41 : lnkOk "BreathTown$Scan" 41 y_Scan_fail := Or.inl (in_3 (List.mem_of_getElem? (i := 152) rfl))
theorem lk_Scan_79 : lnkOk "BreathTown$Scan" 79 y_Scan_isOwnWord := Or.inl (in_3 (List.mem_of_getElem? (i := 153) rfl))
theorem lk_TownR_101 : lnkOk "BreathTown$TownReader" 101 y_Told_knows := Or.inl (in_3 (List.mem_of_getElem? (i := 157) rfl))
theorem lk_Told_82 : lnkOk "BreathTown$Told" 82 y_Told_named := Or.inl (in_3 (List.mem_of_getElem? (i := 161) rfl))
theorem lk_TownR_107 : lnkOk "BreathTown$TownReader" 107 y_Told_enter := Or.inl (in_3 (List.mem_of_getElem? (i := 165) rfl))
theorem lk_Told_78 : lnkOk "BreathTown$Told" 78 y_Told_count := Or.inl (in_3 (List.mem_of_getElem? (i := 169) rfl))
theorem lk_Told_86 : lnkOk "BreathTown$Told" 86 y_BT_setCell := Or.inr ⟨"BreathTown", in_3 (List.mem_of_getElem? (i := 170) rfl)⟩
theorem lk_TownR_64 : lnkOk "BreathTown$TownReader" 64 y_TownR_streetTold := Or.inl (in_3 (List.mem_of_getElem? (i := 172) rfl))
theorem lk_TownR_115 : lnkOk "BreathTown$TownReader" 115 y_TownR_placeAsked := Or.inl (in_3 (List.mem_of_getElem? (i := 177) rfl))
theorem lk_TownR_84 : lnkOk "BreathTown$TownReader" 84 y_Scan_unexpected := Or.inl (in_3 (List.mem_of_getElem? (i := 181) rfl))
theorem lk_TownR_178 : lnkOk "BreathTown$TownReader" 178 y_Told_named := Or.inl (in_3 (List.mem_of_getElem? (i := 182) rfl))
theorem lk_TownR_147 : lnkOk "BreathTown$TownReader" 147 y_BT_setCell := Or.inr ⟨"BreathTown", in_3 (List.mem_of_getElem? (i := 183) rfl)⟩
theorem lk_TownR_121 : lnkOk "BreathTown$TownReader" 121 y_BT_cell := Or.inr ⟨"BreathTown", in_3 (List.mem_of_getElem? (i := 185) rfl)⟩
theorem lk_TownR_131 : lnkOk "BreathTown$TownReader" 131 y_TownR_numberAsked := Or.inl (in_3 (List.mem_of_getElem? (i := 187) rfl))
theorem lk_TownR_87 : lnkOk "BreathTown$TownReader" 87 y_Scan_number := Or.inl (in_3 (List.mem_of_getElem? (i := 191) rfl))
theorem lk_Scan_76 : lnkOk "BreathTown$Scan" 76 y_Scan_atNumber := Or.inl (in_3 (List.mem_of_getElem? (i := 195) rfl))
theorem lk_Scan_73 : lnkOk "BreathTown$Scan" 73 y_Scan_isDigit := Or.inl (in_3 (List.mem_of_getElem? (i := 199) rfl))
theorem lk_TownR_159 : lnkOk "BreathTown$TownReader" 159 y_Reader_readSum := Or.inl (in_3 (List.mem_of_getElem? (i := 205) rfl))
theorem lk_Reader_23 : lnkOk "BreathTown$Reader" 23 y_Reader_sum := Or.inl (in_3 (List.mem_of_getElem? (i := 209) rfl))
theorem lk_Reader_46 : lnkOk "BreathTown$Reader" 46 y_Reader_product := Or.inl (in_3 (List.mem_of_getElem? (i := 213) rfl))
theorem lk_Reader_52 : lnkOk "BreathTown$Reader" 52 y_Reader_part := Or.inl (in_3 (List.mem_of_getElem? (i := 217) rfl))
theorem lk_Reader_55 : lnkOk "BreathTown$Reader" 55 y_Scan_atNumber := Or.inl (in_3 (List.mem_of_getElem? (i := 221) rfl))
theorem lk_Reader_59 : lnkOk "BreathTown$Reader" 59 y_Scan_number := Or.inl (in_3 (List.mem_of_getElem? (i := 222) rfl))
theorem lk_Reader_63 : lnkOk "BreathTown$Reader" 63 y_Reader_took := Or.inl (in_3 (List.mem_of_getElem? (i := 223) rfl))
theorem lk_Reader_40 : lnkOk "BreathTown$Reader" 40 y_Code_add := Or.inl (in_3 (List.mem_of_getElem? (i := 227) rfl))
theorem lk_Reader_66 : lnkOk "BreathTown$Reader" 66 y_Scan_atSign := Or.inl (in_3 (List.mem_of_getElem? (i := 231) rfl))
theorem lk_Reader_69 : lnkOk "BreathTown$Reader" 69 y_Reader_mayOpen := Or.inl (in_3 (List.mem_of_getElem? (i := 235) rfl))
theorem lk_Reader_36 : lnkOk "BreathTown$Reader" 36 y_Scan_fail := Or.inl (in_3 (List.mem_of_getElem? (i := 239) rfl))
theorem lk_Reader_49 : lnkOk "BreathTown$Reader" 49 y_Scan_takeSign := Or.inl (in_4 (List.mem_of_getElem? (i := 0) rfl))
theorem lk_Reader_72 : lnkOk "BreathTown$Reader" 72 y_Scan_needSign := Or.inl (in_4 (List.mem_of_getElem? (i := 4) rfl))
theorem lk_Scan_49 : lnkOk "BreathTown$Scan" 49 y_Scan_takeSign := Or.inl (in_4 (List.mem_of_getElem? (i := 8) rfl))
theorem lk_Reader_77 : lnkOk "BreathTown$Reader" 77 y_Scan_takeWord := Or.inl (in_4 (List.mem_of_getElem? (i := 10) rfl))
theorem lk_Reader_81 : lnkOk "BreathTown$Reader" 81 y_Reader_pair := Or.inl (in_4 (List.mem_of_getElem? (i := 11) rfl))
theorem lk_Reader_97 : lnkOk "BreathTown$Reader" 97 y_Scan_unexpected := Or.inl (in_4 (List.mem_of_getElem? (i := 15) rfl))
theorem lk_Reader_90 : lnkOk "BreathTown$Reader" 90 y_Reader_askedPart := Or.inl (in_4 (List.mem_of_getElem? (i := 19) rfl))
theorem lk_Reader_104 : lnkOk "BreathTown$Reader" 104 y_Scan_atWord := Or.inl (in_4 (List.mem_of_getElem? (i := 25) rfl))
theorem lk_TownR_69 : lnkOk "BreathTown$TownReader" 69 y_TownR_walkerTold := Or.inl (in_4 (List.mem_of_getElem? (i := 30) rfl))
theorem lk_TownR_72 : lnkOk "BreathTown$TownReader" 72 y_TownR_beginTold := Or.inl (in_4 (List.mem_of_getElem? (i := 36) rfl))
theorem lk_TownR_75 : lnkOk "BreathTown$TownReader" 75 y_Scan_needSign := Or.inl (in_4 (List.mem_of_getElem? (i := 41) rfl))
theorem lk_BT_117 : lnkOk "BreathTown" 117 y_BT_keepFault := Or.inl (in_4 (List.mem_of_getElem? (i := 42) rfl))
theorem lk_BT_120 : lnkOk "BreathTown" 120 y_Told_copy := Or.inl (in_4 (List.mem_of_getElem? (i := 46) rfl))
theorem lk_Told_66 : lnkOk "BreathTown$Told" 66 y_BT_copyAll := Or.inr ⟨"BreathTown", in_4 (List.mem_of_getElem? (i := 50) rfl)⟩
theorem lk_Told_70 : lnkOk "BreathTown$Told" 70 y_Code_copy := Or.inl (in_4 (List.mem_of_getElem? (i := 53) rfl))
theorem lk_Code_28 : lnkOk "BreathTown$Code" 28 y_BT_cell := Or.inr ⟨"BreathTown", in_4 (List.mem_of_getElem? (i := 57) rfl)⟩
theorem lk_Code_32 : lnkOk "BreathTown$Code" 32 y_BT_setCell := Or.inr ⟨"BreathTown", in_4 (List.mem_of_getElem? (i := 58) rfl)⟩
theorem lk_BT_123 : lnkOk "BreathTown" 123 y_Now_begin := Or.inl (in_4 (List.mem_of_getElem? (i := 59) rfl))
theorem lk_Now_47 : lnkOk "BreathTown$Now" 47 y_BT_copyAll := Or.inr ⟨"BreathTown", in_4 (List.mem_of_getElem? (i := 63) rfl)⟩
theorem lk_Now_53 : lnkOk "BreathTown$Now" 53 y_BT_fill := Or.inr ⟨"BreathTown", in_4 (List.mem_of_getElem? (i := 64) rfl)⟩
theorem lk_BT_126 : lnkOk "BreathTown" 126 y_Widths_forget := Or.inl (in_4 (List.mem_of_getElem? (i := 65) rfl))
theorem lk_Law_28 : lnkOk "BreathTownLaw" 28 y_BT_fault := Or.inl (in_4 (List.mem_of_getElem? (i := 70) rfl))
theorem lk_Law_33 : lnkOk "BreathTownLaw" 33 y_BT_has := Or.inl (in_4 (List.mem_of_getElem? (i := 74) rfl))
theorem lk_BT_132 : lnkOk "BreathTown" 132 y_Told_count := Or.inl (in_4 (List.mem_of_getElem? (i := 78) rfl))
theorem lk_BT_137 : lnkOk "BreathTown" 137 y_Now_freeWalkers := Or.inl (in_4 (List.mem_of_getElem? (i := 79) rfl))
theorem lk_Now_67 : lnkOk "BreathTown$Now" 67 y_Told_count := Or.inl (in_4 (List.mem_of_getElem? (i := 83) rfl))
theorem lk_Now_57 : lnkOk "BreathTown$Now" 57 y_BT_cell := Or.inr ⟨"BreathTown", in_4 (List.mem_of_getElem? (i := 84) rfl)⟩
theorem lk_Law_37 : lnkOk "BreathTownLaw" 37 y_BT_letter := Or.inl (in_4 (List.mem_of_getElem? (i := 85) rfl))
theorem lk_BT_143 : lnkOk "BreathTown" 143 y_Told_hasA := Or.inl (in_4 (List.mem_of_getElem? (i := 89) rfl))
theorem lk_Law_42 : lnkOk "BreathTownLaw" 42 y_BT_street := Or.inl (in_4 (List.mem_of_getElem? (i := 93) rfl))
theorem lk_BT_169 : lnkOk "BreathTown" 169 y_Widths_tideAt := Or.inl (in_4 (List.mem_of_getElem? (i := 97) rfl))
theorem lk_Widths_33 : lnkOk "BreathTown$Widths" 33 y_BT_cell := Or.inr ⟨"BreathTown", in_4 (List.mem_of_getElem? (i := 101) rfl)⟩
theorem lk_Widths_48 : lnkOk "BreathTown$Widths" 48 y_Widths_tideBy := Or.inl (in_4 (List.mem_of_getElem? (i := 102) rfl))
theorem lk_Widths_37 : lnkOk "BreathTown$Widths" 37 y_Math_floorMod := Or.inl (in_4 (List.mem_of_getElem? (i := 106) rfl))
theorem lk_BT_173 : lnkOk "BreathTown" 173 y_Widths_widthAt := Or.inl (in_4 (List.mem_of_getElem? (i := 109) rfl))
theorem lk_Widths_52 : lnkOk "BreathTown$Widths" 52 y_Widths_widthBy := Or.inl (in_4 (List.mem_of_getElem? (i := 113) rfl))
theorem lk_Widths_67 : lnkOk "BreathTown$Widths" 67 y_Code_value := Or.inl (in_4 (List.mem_of_getElem? (i := 118) rfl))
theorem lk_Code_36 : lnkOk "BreathTown$Code" 36 y_Code_combined := Or.inl (in_4 (List.mem_of_getElem? (i := 122) rfl))
theorem lk_Code_48 : lnkOk "BreathTown$Code" 48 y_Math_floorDiv := Or.inl (in_4 (List.mem_of_getElem? (i := 125) rfl))
theorem lk_Code_44 : lnkOk "BreathTown$Code" 44 y_Code_plain := Or.inl (in_4 (List.mem_of_getElem? (i := 130) rfl))
theorem lk_Law_47 : lnkOk "BreathTownLaw" 47 y_BT_walker := Or.inl (in_4 (List.mem_of_getElem? (i := 133) rfl))
theorem lk_Law_51 : lnkOk "BreathTownLaw" 51 y_BT_width := Or.inl (in_4 (List.mem_of_getElem? (i := 137) rfl))
theorem lk_BT_188 : lnkOk "BreathTown" 188 y_BT_isAsked := Or.inl (in_4 (List.mem_of_getElem? (i := 141) rfl))
theorem lk_Law_55 : lnkOk "BreathTownLaw" 55 y_BT_passes := Or.inl (in_4 (List.mem_of_getElem? (i := 145) rfl))
theorem lk_BT_192 : lnkOk "BreathTown" 192 y_BT_isBreadth := Or.inl (in_4 (List.mem_of_getElem? (i := 149) rfl))
theorem lk_BT_195 : lnkOk "BreathTown" 195 y_Ways_firstPass := Or.inl (in_4 (List.mem_of_getElem? (i := 152) rfl))
theorem lk_Ways_47 : lnkOk "BreathTown$Ways" 47 y_BT_cell := Or.inr ⟨"BreathTown", in_4 (List.mem_of_getElem? (i := 156) rfl)⟩
theorem lk_Ways_60 : lnkOk "BreathTown$Ways" 60 y_Ways_load := Or.inl (in_4 (List.mem_of_getElem? (i := 157) rfl))
theorem lk_Ways_64 : lnkOk "BreathTown$Ways" 64 y_Widths_widthBy := Or.inl (in_4 (List.mem_of_getElem? (i := 161) rfl))
theorem lk_Law_59 : lnkOk "BreathTownLaw" 59 y_BT_next := Or.inl (in_4 (List.mem_of_getElem? (i := 162) rfl))
theorem lk_Law_63 : lnkOk "BreathTownLaw" 63 y_BT_often := Or.inl (in_4 (List.mem_of_getElem? (i := 166) rfl))
theorem lk_BT_199 : lnkOk "BreathTown" 199 y_Ways_passCount := Or.inl (in_4 (List.mem_of_getElem? (i := 170) rfl))
theorem lk_Ways_70 : lnkOk "BreathTown$Ways" 70 y_Widths_widthAt := Or.inl (in_4 (List.mem_of_getElem? (i := 174) rfl))
theorem lk_Law_68 : lnkOk "BreathTownLaw" 68 y_BT_wide := Or.inl (in_4 (List.mem_of_getElem? (i := 175) rfl))
theorem lk_BT_202 : lnkOk "BreathTown" 202 y_Widths_firstWide := Or.inl (in_4 (List.mem_of_getElem? (i := 179) rfl))
theorem lk_Widths_77 : lnkOk "BreathTown$Widths" 77 y_Widths_areWide := Or.inl (in_4 (List.mem_of_getElem? (i := 183) rfl))
theorem lk_Widths_81 : lnkOk "BreathTown$Widths" 81 y_Told_count := Or.inl (in_4 (List.mem_of_getElem? (i := 187) rfl))
theorem lk_Widths_85 : lnkOk "BreathTown$Widths" 85 y_Widths_widthAt := Or.inl (in_4 (List.mem_of_getElem? (i := 188) rfl))
theorem lk_Law_72 : lnkOk "BreathTownLaw" 72 y_BT_way := Or.inl (in_4 (List.mem_of_getElem? (i := 189) rfl))
theorem lk_BT_205 : lnkOk "BreathTown" 205 y_Ways_plan := Or.inl (in_4 (List.mem_of_getElem? (i := 193) rfl))
theorem lk_Ways_123 : lnkOk "BreathTown$Ways" 123 y_Told_hasA := Or.inl (in_4 (List.mem_of_getElem? (i := 197) rfl))
theorem lk_Ways_127 : lnkOk "BreathTown$Ways" 127 y_Ways_searchFor := Or.inl (in_4 (List.mem_of_getElem? (i := 198) rfl))
theorem lk_Ways_110 : lnkOk "BreathTown$Ways" 110 y_Now_setOut := Or.inl (in_4 (List.mem_of_getElem? (i := 202) rfl))
theorem lk_Now_61 : lnkOk "BreathTown$Now" 61 y_Math_max := Or.inl (in_4 (List.mem_of_getElem? (i := 206) rfl))
theorem lk_Ways_113 : lnkOk "BreathTown$Ways" 113 y_Ways_search := Or.inl (in_4 (List.mem_of_getElem? (i := 209) rfl))
theorem lk_Ways_81 : lnkOk "BreathTown$Ways" 81 y_BT_fill := Or.inr ⟨"BreathTown", in_4 (List.mem_of_getElem? (i := 214) rfl)⟩
theorem lk_Ways_76 : lnkOk "BreathTown$Ways" 76 y_BT_setCell := Or.inr ⟨"BreathTown", in_4 (List.mem_of_getElem? (i := 215) rfl)⟩
theorem lk_Ways_85 : lnkOk "BreathTown$Ways" 85 y_Told_count := Or.inl (in_4 (List.mem_of_getElem? (i := 216) rfl))
theorem lk_Ways_89 : lnkOk "BreathTown$Ways" 89 y_Ways_soonestBut := Or.inl (in_4 (List.mem_of_getElem? (i := 217) rfl))
theorem lk_Ways_92 : lnkOk "BreathTown$Ways" 92 y_Told_beyond := Or.inl (in_4 (List.mem_of_getElem? (i := 221) rfl))
theorem lk_Ways_95 : lnkOk "BreathTown$Ways" 95 y_Math_min := Or.inl (in_4 (List.mem_of_getElem? (i := 225) rfl))
theorem lk_Ways_100 : lnkOk "BreathTown$Ways" 100 y_Ways_firstPass := Or.inl (in_4 (List.mem_of_getElem? (i := 228) rfl))
theorem lk_Ways_134 : lnkOk "BreathTown$Ways" 134 y_Ways_trace := Or.inl (in_4 (List.mem_of_getElem? (i := 229) rfl))
theorem lk_Ways_117 : lnkOk "BreathTown$Ways" 117 y_Ways_turnSteps := Or.inl (in_4 (List.mem_of_getElem? (i := 233) rfl))
theorem lk_Ways_120 : lnkOk "BreathTown$Ways" 120 y_Ways_swap := Or.inl (in_4 (List.mem_of_getElem? (i := 237) rfl))
theorem lk_Ways_138 : lnkOk "BreathTown$Ways" 138 y_Ways_soonestAt := Or.inl (in_5 (List.mem_of_getElem? (i := 0) rfl))
theorem lk_Law_76 : lnkOk "BreathTownLaw" 76 y_BT_arrival := Or.inl (in_5 (List.mem_of_getElem? (i := 4) rfl))
theorem lk_BT_217 : lnkOk "BreathTown" 217 y_Ways_searchFor := Or.inl (in_5 (List.mem_of_getElem? (i := 8) rfl))
theorem lk_BT_221 : lnkOk "BreathTown" 221 y_Ways_soonestAt := Or.inl (in_5 (List.mem_of_getElem? (i := 9) rfl))
theorem lk_Law_80 : lnkOk "BreathTownLaw" 80 y_BT_stuck := Or.inl (in_5 (List.mem_of_getElem? (i := 10) rfl))
theorem lk_BT_224 : lnkOk "BreathTown" 224 y_Ways_stuckAt := Or.inl (in_5 (List.mem_of_getElem? (i := 14) rfl))
theorem lk_Ways_141 : lnkOk "BreathTown$Ways" 141 y_Ways_firstNarrow := Or.inl (in_5 (List.mem_of_getElem? (i := 18) rfl))
theorem lk_Law_84 : lnkOk "BreathTownLaw" 84 y_BT_needed := Or.inl (in_5 (List.mem_of_getElem? (i := 22) rfl))
theorem lk_BT_227 : lnkOk "BreathTown" 227 y_Ways_neededStreets := Or.inl (in_5 (List.mem_of_getElem? (i := 26) rfl))
theorem lk_Law_88 : lnkOk "BreathTownLaw" 88 y_BT_parade := Or.inl (in_5 (List.mem_of_getElem? (i := 30) rfl))
theorem lk_BT_230 : lnkOk "BreathTown" 230 y_Ways_paradeHour := Or.inl (in_5 (List.mem_of_getElem? (i := 34) rfl))
theorem lk_Ways_147 : lnkOk "BreathTown$Ways" 147 y_Ways_canParade := Or.inl (in_5 (List.mem_of_getElem? (i := 38) rfl))
theorem lk_Law_92 : lnkOk "BreathTownLaw" 92 y_BT_rows := Or.inl (in_5 (List.mem_of_getElem? (i := 42) rfl))
theorem lk_BT_233 : lnkOk "BreathTown" 233 y_Many_findOrder := Or.inl (in_5 (List.mem_of_getElem? (i := 46) rfl))
theorem lk_Many_60 : lnkOk "BreathTown$Many" 60 y_Many_isOrder := Or.inl (in_5 (List.mem_of_getElem? (i := 51) rfl))
theorem lk_Many_77 : lnkOk "BreathTown$Many" 77 y_BT_setCell := Or.inr ⟨"BreathTown", in_5 (List.mem_of_getElem? (i := 55) rfl)⟩
theorem lk_Many_64 : lnkOk "BreathTown$Many" 64 y_Many_allArrive := Or.inl (in_5 (List.mem_of_getElem? (i := 56) rfl))
theorem lk_Many_72 : lnkOk "BreathTown$Many" 72 y_Ways_clearBusy := Or.inl (in_5 (List.mem_of_getElem? (i := 60) rfl))
theorem lk_Many_81 : lnkOk "BreathTown$Many" 81 y_BT_cell := Or.inr ⟨"BreathTown", in_5 (List.mem_of_getElem? (i := 64) rfl)⟩
theorem lk_Many_95 : lnkOk "BreathTown$Many" 95 y_Now_setOut := Or.inl (in_5 (List.mem_of_getElem? (i := 65) rfl))
theorem lk_Many_99 : lnkOk "BreathTown$Many" 99 y_Ways_search := Or.inl (in_5 (List.mem_of_getElem? (i := 66) rfl))
theorem lk_Many_106 : lnkOk "BreathTown$Many" 106 y_Ways_trace := Or.inl (in_5 (List.mem_of_getElem? (i := 67) rfl))
theorem lk_Many_110 : lnkOk "BreathTown$Many" 110 y_Ways_soonestAt := Or.inl (in_5 (List.mem_of_getElem? (i := 68) rfl))
theorem lk_Many_113 : lnkOk "BreathTown$Many" 113 y_Ways_occupy := Or.inl (in_5 (List.mem_of_getElem? (i := 69) rfl))
theorem lk_Many_68 : lnkOk "BreathTown$Many" 68 y_Many_keepBetter := Or.inl (in_5 (List.mem_of_getElem? (i := 73) rfl))
theorem lk_Many_116 : lnkOk "BreathTown$Many" 116 y_Math_max := Or.inl (in_5 (List.mem_of_getElem? (i := 77) rfl))
theorem lk_Many_122 : lnkOk "BreathTown$Many" 122 y_BT_copyAll := Or.inr ⟨"BreathTown", in_5 (List.mem_of_getElem? (i := 78) rfl)⟩
theorem lk_Law_96 : lnkOk "BreathTownLaw" 96 y_BT_doctors := Or.inl (in_5 (List.mem_of_getElem? (i := 79) rfl))
theorem lk_BT_245 : lnkOk "BreathTown" 245 y_Many_findDoctors := Or.inl (in_5 (List.mem_of_getElem? (i := 83) rfl))
theorem lk_Many_126 : lnkOk "BreathTown$Many" 126 y_Many_lookBack := Or.inl (in_5 (List.mem_of_getElem? (i := 87) rfl))
theorem lk_Many_140 : lnkOk "BreathTown$Many" 140 y_BT_fill := Or.inr ⟨"BreathTown", in_5 (List.mem_of_getElem? (i := 91) rfl)⟩
theorem lk_Many_144 : lnkOk "BreathTown$Many" 144 y_Many_waitOn := Or.inl (in_5 (List.mem_of_getElem? (i := 92) rfl))
theorem lk_Many_130 : lnkOk "BreathTown$Many" 130 y_Told_count := Or.inl (in_5 (List.mem_of_getElem? (i := 96) rfl))
theorem lk_Many_170 : lnkOk "BreathTown$Many" 170 y_Many_slot := Or.inl (in_5 (List.mem_of_getElem? (i := 97) rfl))
theorem lk_Many_173 : lnkOk "BreathTown$Many" 173 y_Many_areIn := Or.inl (in_5 (List.mem_of_getElem? (i := 100) rfl))
theorem lk_Many_150 : lnkOk "BreathTown$Many" 150 y_Widths_widthAt := Or.inl (in_5 (List.mem_of_getElem? (i := 104) rfl))
theorem lk_Many_164 : lnkOk "BreathTown$Many" 164 y_Many_passOn := Or.inl (in_5 (List.mem_of_getElem? (i := 105) rfl))
theorem lk_Many_167 : lnkOk "BreathTown$Many" 167 y_Many_keepReached := Or.inl (in_5 (List.mem_of_getElem? (i := 109) rfl))
theorem lk_Many_133 : lnkOk "BreathTown$Many" 133 y_Many_allReached := Or.inl (in_5 (List.mem_of_getElem? (i := 113) rfl))
theorem lk_Many_136 : lnkOk "BreathTown$Many" 136 y_Many_keepFound := Or.inl (in_5 (List.mem_of_getElem? (i := 117) rfl))
theorem lk_Law_100 : lnkOk "BreathTownLaw" 100 y_BT_go := Or.inl (in_5 (List.mem_of_getElem? (i := 121) rfl))
theorem lk_BT_251 : lnkOk "BreathTown" 251 y_Now_keep := Or.inl (in_5 (List.mem_of_getElem? (i := 125) rfl))
theorem lk_Now_77 : lnkOk "BreathTown$Now" 77 y_BT_setCell := Or.inr ⟨"BreathTown", in_5 (List.mem_of_getElem? (i := 129) rfl)⟩
theorem lk_Now_81 : lnkOk "BreathTown$Now" 81 y_Now_move := Or.inl (in_5 (List.mem_of_getElem? (i := 130) rfl))
theorem lk_Law_104 : lnkOk "BreathTownLaw" 104 y_BT_send := Or.inl (in_5 (List.mem_of_getElem? (i := 134) rfl))
theorem lk_BT_254 : lnkOk "BreathTown" 254 y_Now_arrive := Or.inl (in_5 (List.mem_of_getElem? (i := 138) rfl))
theorem lk_Law_108 : lnkOk "BreathTownLaw" 108 y_BT_hold := Or.inl (in_5 (List.mem_of_getElem? (i := 142) rfl))
theorem lk_BT_257 : lnkOk "BreathTown" 257 y_Now_turn := Or.inl (in_5 (List.mem_of_getElem? (i := 146) rfl))
theorem lk_Now_74 : lnkOk "BreathTown$Now" 74 y_Math_floorMod := Or.inl (in_5 (List.mem_of_getElem? (i := 150) rfl))
theorem lk_Law_112 : lnkOk "BreathTownLaw" 112 y_BT_days := Or.inl (in_5 (List.mem_of_getElem? (i := 151) rfl))
theorem lk_BT_260 : lnkOk "BreathTown" 260 y_BT_passDay := Or.inl (in_5 (List.mem_of_getElem? (i := 155) rfl))
theorem lk_BT_315 : lnkOk "BreathTown" 315 y_BT_drawn := Or.inl (in_5 (List.mem_of_getElem? (i := 159) rfl))
theorem lk_Law_116 : lnkOk "BreathTownLaw" 116 y_BT_undo := Or.inl (in_5 (List.mem_of_getElem? (i := 167) rfl))
theorem lk_BT_263 : lnkOk "BreathTown" 263 y_Now_takeBack := Or.inl (in_5 (List.mem_of_getElem? (i := 171) rfl))
theorem lk_Law_121 : lnkOk "BreathTownLaw" 121 y_BT_seed := Or.inl (in_5 (List.mem_of_getElem? (i := 175) rfl))
theorem lk_Law_125 : lnkOk "BreathTownLaw" 125 y_BT_see := Or.inl (in_5 (List.mem_of_getElem? (i := 179) rfl))
theorem lk_BT_266 : lnkOk "BreathTown" 266 y_Seen_take := Or.inl (in_5 (List.mem_of_getElem? (i := 183) rfl))
theorem lk_Seen_45 : lnkOk "BreathTown$Seen" 45 y_Scan_byteAt := Or.inl (in_5 (List.mem_of_getElem? (i := 187) rfl))
theorem lk_Seen_49 : lnkOk "BreathTown$Seen" 49 y_Told_hasA := Or.inl (in_5 (List.mem_of_getElem? (i := 188) rfl))
theorem lk_Seen_55 : lnkOk "BreathTown$Seen" 55 y_BT_setCell := Or.inr ⟨"BreathTown", in_5 (List.mem_of_getElem? (i := 189) rfl)⟩
theorem lk_Law_129 : lnkOk "BreathTownLaw" 129 y_BT_shifts := Or.inl (in_5 (List.mem_of_getElem? (i := 190) rfl))
theorem lk_BT_270 : lnkOk "BreathTown" 270 y_Seen_findShifts := Or.inl (in_5 (List.mem_of_getElem? (i := 194) rfl))
theorem lk_Seen_65 : lnkOk "BreathTown$Seen" 65 y_BT_cell := Or.inr ⟨"BreathTown", in_5 (List.mem_of_getElem? (i := 198) rfl)⟩
theorem lk_Seen_69 : lnkOk "BreathTown$Seen" 69 y_Seen_fits := Or.inl (in_5 (List.mem_of_getElem? (i := 199) rfl))
theorem lk_Seen_72 : lnkOk "BreathTown$Seen" 72 y_Widths_widthBy := Or.inl (in_5 (List.mem_of_getElem? (i := 203) rfl))
theorem lk_Law_133 : lnkOk "BreathTownLaw" 133 y_BT_telling := Or.inl (in_5 (List.mem_of_getElem? (i := 204) rfl))
theorem lk_BT_276 : lnkOk "BreathTown" 276 y_Seen_tellingHour := Or.inl (in_5 (List.mem_of_getElem? (i := 208) rfl))
theorem lk_Seen_78 : lnkOk "BreathTown$Seen" 78 y_Seen_findShifts := Or.inl (in_5 (List.mem_of_getElem? (i := 212) rfl))
theorem lk_Seen_87 : lnkOk "BreathTown$Seen" 87 y_Seen_mostAlike := Or.inl (in_5 (List.mem_of_getElem? (i := 214) rfl))
theorem lk_Seen_90 : lnkOk "BreathTown$Seen" 90 y_BT_fill := Or.inr ⟨"BreathTown", in_5 (List.mem_of_getElem? (i := 218) rfl)⟩
theorem lk_Seen_94 : lnkOk "BreathTown$Seen" 94 y_Math_max := Or.inl (in_5 (List.mem_of_getElem? (i := 219) rfl))
theorem lk_Law_137 : lnkOk "BreathTownLaw" 137 y_BT_ask := Or.inl (in_5 (List.mem_of_getElem? (i := 220) rfl))
theorem lk_BT_279 : lnkOk "BreathTown" 279 y_Quest_read := Or.inl (in_5 (List.mem_of_getElem? (i := 224) rfl))
theorem lk_Quest_51 : lnkOk "BreathTown$Question" 51 y_Scan_start := Or.inl (in_5 (List.mem_of_getElem? (i := 228) rfl))
theorem lk_Quest_56 : lnkOk "BreathTown$Question" 56 y_Code_clear := Or.inl (in_5 (List.mem_of_getElem? (i := 229) rfl))
theorem lk_Quest_59 : lnkOk "BreathTown$Question" 59 y_Quest_head := Or.inl (in_5 (List.mem_of_getElem? (i := 230) rfl))
theorem lk_Quest_78 : lnkOk "BreathTown$Question" 78 y_Scan_takeWord := Or.inl (in_5 (List.mem_of_getElem? (i := 235) rfl))
theorem lk_Quest_63 : lnkOk "BreathTown$Question" 63 y_Scan_unexpected := Or.inl (in_6 (List.mem_of_getElem? (i := 1) rfl))
theorem lk_Quest_67 : lnkOk "BreathTown$Question" 67 y_Reader_readTest := Or.inl (in_6 (List.mem_of_getElem? (i := 2) rfl))
theorem lk_Reader_27 : lnkOk "BreathTown$Reader" 27 y_Reader_test := Or.inl (in_6 (List.mem_of_getElem? (i := 6) rfl))
theorem lk_Reader_109 : lnkOk "BreathTown$Reader" 109 y_Reader_both := Or.inl (in_6 (List.mem_of_getElem? (i := 10) rfl))
theorem lk_Reader_114 : lnkOk "BreathTown$Reader" 114 y_Reader_fact := Or.inl (in_6 (List.mem_of_getElem? (i := 14) rfl))
theorem lk_Quest_70 : lnkOk "BreathTown$Question" 70 y_Reader_readSum := Or.inl (in_6 (List.mem_of_getElem? (i := 22) rfl))
theorem lk_Quest_73 : lnkOk "BreathTown$Question" 73 y_Scan_atEnd := Or.inl (in_6 (List.mem_of_getElem? (i := 23) rfl))
theorem lk_BT_282 : lnkOk "BreathTown" 282 y_Quest_workOut := Or.inl (in_6 (List.mem_of_getElem? (i := 25) rfl))
theorem lk_Quest_98 : lnkOk "BreathTown$Question" 98 y_Quest_fillTables := Or.inl (in_6 (List.mem_of_getElem? (i := 29) rfl))
theorem lk_Quest_129 : lnkOk "BreathTown$Question" 129 y_BT_fill := Or.inr ⟨"BreathTown", in_6 (List.mem_of_getElem? (i := 33) rfl)⟩
theorem lk_Quest_133 : lnkOk "BreathTown$Question" 133 y_Code_uses := Or.inl (in_6 (List.mem_of_getElem? (i := 34) rfl))
theorem lk_Quest_137 : lnkOk "BreathTown$Question" 137 y_Told_count := Or.inl (in_6 (List.mem_of_getElem? (i := 38) rfl))
theorem lk_Quest_143 : lnkOk "BreathTown$Question" 143 y_Widths_widthAt := Or.inl (in_6 (List.mem_of_getElem? (i := 39) rfl))
theorem lk_Quest_109 : lnkOk "BreathTown$Question" 109 y_BT_setCell := Or.inr ⟨"BreathTown", in_6 (List.mem_of_getElem? (i := 40) rfl)⟩
theorem lk_Quest_148 : lnkOk "BreathTown$Question" 148 y_Widths_tideAt := Or.inl (in_6 (List.mem_of_getElem? (i := 41) rfl))
theorem lk_Quest_151 : lnkOk "BreathTown$Question" 151 y_Quest_passed := Or.inl (in_6 (List.mem_of_getElem? (i := 42) rfl))
theorem lk_Quest_113 : lnkOk "BreathTown$Question" 113 y_BT_cell := Or.inr ⟨"BreathTown", in_6 (List.mem_of_getElem? (i := 46) rfl)⟩
theorem lk_Quest_157 : lnkOk "BreathTown$Question" 157 y_Ways_firstPass := Or.inl (in_6 (List.mem_of_getElem? (i := 47) rfl))
theorem lk_Quest_105 : lnkOk "BreathTown$Question" 105 y_Code_value := Or.inl (in_6 (List.mem_of_getElem? (i := 48) rfl))
theorem lk_BT_285 : lnkOk "BreathTown" 285 y_Quest_answer := Or.inl (in_6 (List.mem_of_getElem? (i := 49) rfl))
theorem lk_Quest_117 : lnkOk "BreathTown$Question" 117 y_Math_max := Or.inl (in_6 (List.mem_of_getElem? (i := 53) rfl))
theorem lk_Quest_123 : lnkOk "BreathTown$Question" 123 y_Math_min := Or.inl (in_6 (List.mem_of_getElem? (i := 54) rfl))
theorem lk_Law_142 : lnkOk "BreathTownLaw" 142 y_BT_image := Or.inl (in_6 (List.mem_of_getElem? (i := 55) rfl))
theorem lk_BT_289 : lnkOk "BreathTown" 289 y_Now_draw := Or.inl (in_6 (List.mem_of_getElem? (i := 59) rfl))
theorem lk_Now_92 : lnkOk "BreathTown$Now" 92 y_Now_writeHour := Or.inl (in_6 (List.mem_of_getElem? (i := 63) rfl))
theorem lk_Now_88 : lnkOk "BreathTown$Now" 88 y_Now_write := Or.inl (in_6 (List.mem_of_getElem? (i := 67) rfl))
theorem lk_Now_95 : lnkOk "BreathTown$Now" 95 y_Now_check := Or.inl (in_6 (List.mem_of_getElem? (i := 71) rfl))
theorem lk_Law_146 : lnkOk "BreathTownLaw" 146 y_BT_octet := Or.inl (in_6 (List.mem_of_getElem? (i := 74) rfl))
theorem lk_Law_150 : lnkOk "BreathTownLaw" 150 y_BT_on := Or.inl (in_6 (List.mem_of_getElem? (i := 78) rfl))
theorem lk_BT_298 : lnkOk "BreathTown" 298 y_Now_isPicture := Or.inl (in_6 (List.mem_of_getElem? (i := 82) rfl))
theorem lk_Now_98 : lnkOk "BreathTown$Now" 98 y_Scan_byteAt := Or.inl (in_6 (List.mem_of_getElem? (i := 86) rfl))
theorem lk_Now_109 : lnkOk "BreathTown$Now" 109 y_Now_hourAt := Or.inl (in_6 (List.mem_of_getElem? (i := 87) rfl))
theorem lk_Now_113 : lnkOk "BreathTown$Now" 113 y_Now_isWalker := Or.inl (in_6 (List.mem_of_getElem? (i := 90) rfl))
theorem lk_BT_301 : lnkOk "BreathTown" 301 y_Now_restore := Or.inl (in_6 (List.mem_of_getElem? (i := 94) rfl))
theorem lk_Law_154 : lnkOk "BreathTownLaw" 154 y_BT_status := Or.inl (in_6 (List.mem_of_getElem? (i := 98) rfl))
theorem lk_Law_17 : lnkOk "BreathTownLaw" 17 y_M_feed := Or.inl (in_7 (List.mem_of_getElem? (i := 171) rfl))
theorem lk_Law_22 : lnkOk "BreathTownLaw" 22 y_M_end := Or.inl (in_7 (List.mem_of_getElem? (i := 175) rfl))
theorem lk_Law_27 : lnkOk "BreathTownLaw" 27 y_M_town := Or.inl (in_7 (List.mem_of_getElem? (i := 179) rfl))
theorem lk_M_237 : lnkOk "BreathTownModel" 237 y_M_look := Or.inl (in_7 (List.mem_of_getElem? (i := 183) rfl))
theorem lk_M_341 : lnkOk "BreathTownModel" 341 y_M_statementTold := Or.inl (in_7 (List.mem_of_getElem? (i := 187) rfl))
theorem lk_M_255 : lnkOk "BreathTownModel" 255 y_M_fail := Or.inl (in_7 (List.mem_of_getElem? (i := 191) rfl))
theorem lk_M_252 : lnkOk "BreathTownModel" 252 y_M_takes := Or.inl (in_7 (List.mem_of_getElem? (i := 195) rfl))
theorem lk_M_248 : lnkOk "BreathTownModel" 248 y_M_isHere := Or.inl (in_7 (List.mem_of_getElem? (i := 199) rfl))
theorem lk_M_241 : lnkOk "BreathTownModel" 241 y_M_isLetter := Or.inl (in_7 (List.mem_of_getElem? (i := 203) rfl))
theorem lk_M_325 : lnkOk "BreathTownModel" 325 y_M_newPlace := Or.inl (in_7 (List.mem_of_getElem? (i := 206) rfl))
theorem lk_M_288 : lnkOk "BreathTownModel" 288 y_M_isFull := Or.inl (in_7 (List.mem_of_getElem? (i := 210) rfl))
theorem lk_M_292 : lnkOk "BreathTownModel" 292 y_M_newName := Or.inl (in_7 (List.mem_of_getElem? (i := 214) rfl))
theorem lk_M_280 : lnkOk "BreathTownModel" 280 y_M_name := Or.inl (in_7 (List.mem_of_getElem? (i := 218) rfl))
theorem lk_M_269 : lnkOk "BreathTownModel" 269 y_M_isOwnHere := Or.inl (in_7 (List.mem_of_getElem? (i := 222) rfl))
theorem lk_M_284 : lnkOk "BreathTownModel" 284 y_M_nameOf := Or.inl (in_7 (List.mem_of_getElem? (i := 228) rfl))
theorem lk_M_329 : lnkOk "BreathTownModel" 329 y_M_newStreet := Or.inl (in_7 (List.mem_of_getElem? (i := 232) rfl))
theorem lk_M_295 : lnkOk "BreathTownModel" 295 y_M_asks := Or.inl (in_7 (List.mem_of_getElem? (i := 236) rfl))
theorem lk_M_299 : lnkOk "BreathTownModel" 299 y_M_placeTold := Or.inl (in_8 (List.mem_of_getElem? (i := 0) rfl))
theorem lk_M_303 : lnkOk "BreathTownModel" 303 y_M_number := Or.inl (in_8 (List.mem_of_getElem? (i := 4) rfl))
theorem lk_M_262 : lnkOk "BreathTownModel" 262 y_M_isDigit := Or.inl (in_8 (List.mem_of_getElem? (i := 8) rfl))
theorem lk_M_265 : lnkOk "BreathTownModel" 265 y_M_isIn := Or.inl (in_8 (List.mem_of_getElem? (i := 11) rfl))
theorem lk_M_319 : lnkOk "BreathTownModel" 319 y_M_sumsTold := Or.inl (in_8 (List.mem_of_getElem? (i := 14) rfl))
theorem lk_M_377 : lnkOk "BreathTownModel" 377 y_M_onePart := Or.inl (in_8 (List.mem_of_getElem? (i := 18) rfl))
theorem lk_M_365 : lnkOk "BreathTownModel" 365 y_M_opens := Or.inl (in_8 (List.mem_of_getElem? (i := 22) rfl))
theorem lk_M_338 : lnkOk "BreathTownModel" 338 y_M_asksSign := Or.inl (in_8 (List.mem_of_getElem? (i := 26) rfl))
theorem lk_M_259 : lnkOk "BreathTownModel" 259 y_M_takesSign := Or.inl (in_8 (List.mem_of_getElem? (i := 30) rfl))
theorem lk_M_356 : lnkOk "BreathTownModel" 356 y_M_code := Or.inl (in_8 (List.mem_of_getElem? (i := 34) rfl))
theorem lk_M_380 : lnkOk "BreathTownModel" 380 y_M_goesOn := Or.inl (in_8 (List.mem_of_getElem? (i := 38) rfl))
theorem lk_M_368 : lnkOk "BreathTownModel" 368 y_M_waitsLast := Or.inl (in_8 (List.mem_of_getElem? (i := 42) rfl))
theorem lk_M_359 : lnkOk "BreathTownModel" 359 y_M_isMark := Or.inl (in_8 (List.mem_of_getElem? (i := 46) rfl))
theorem lk_M_371 : lnkOk "BreathTownModel" 371 y_M_dropsToMark := Or.inl (in_8 (List.mem_of_getElem? (i := 50) rfl))
theorem lk_M_362 : lnkOk "BreathTownModel" 362 y_M_drops := Or.inl (in_8 (List.mem_of_getElem? (i := 54) rfl))
theorem lk_M_374 : lnkOk "BreathTownModel" 374 y_M_isOn := Or.inl (in_8 (List.mem_of_getElem? (i := 58) rfl))
theorem lk_M_332 : lnkOk "BreathTownModel" 332 y_M_newWalker := Or.inl (in_8 (List.mem_of_getElem? (i := 62) rfl))
theorem lk_M_347 : lnkOk "BreathTownModel" 347 y_M_stands := Or.inl (in_8 (List.mem_of_getElem? (i := 66) rfl))
theorem lk_Law_32 : lnkOk "BreathTownLaw" 32 y_M_fault := Or.inl (in_8 (List.mem_of_getElem? (i := 70) rfl))
theorem lk_Law_36 : lnkOk "BreathTownLaw" 36 y_M_has := Or.inl (in_8 (List.mem_of_getElem? (i := 74) rfl))
theorem lk_M_409 : lnkOk "BreathTownModel" 409 y_M_placeMany := Or.inl (in_8 (List.mem_of_getElem? (i := 78) rfl))
theorem lk_M_412 : lnkOk "BreathTownModel" 412 y_M_streetMany := Or.inl (in_8 (List.mem_of_getElem? (i := 82) rfl))
theorem lk_M_415 : lnkOk "BreathTownModel" 415 y_M_walkerMany := Or.inl (in_8 (List.mem_of_getElem? (i := 86) rfl))
theorem lk_M_502 : lnkOk "BreathTownModel" 502 y_M_freeMany := Or.inl (in_8 (List.mem_of_getElem? (i := 90) rfl))
theorem lk_Law_41 : lnkOk "BreathTownLaw" 41 y_M_letter := Or.inl (in_8 (List.mem_of_getElem? (i := 94) rfl))
theorem lk_Law_46 : lnkOk "BreathTownLaw" 46 y_M_street := Or.inl (in_8 (List.mem_of_getElem? (i := 100) rfl))
theorem lk_M_509 : lnkOk "BreathTownModel" 509 y_M_isStreet := Or.inl (in_8 (List.mem_of_getElem? (i := 104) rfl))
theorem lk_M_464 : lnkOk "BreathTownModel" 464 y_M_endOf := Or.inl (in_8 (List.mem_of_getElem? (i := 108) rfl))
theorem lk_M_431 : lnkOk "BreathTownModel" 431 y_M_shiftOf := Or.inl (in_8 (List.mem_of_getElem? (i := 112) rfl))
theorem lk_M_421 : lnkOk "BreathTownModel" 421 y_M_tideOf := Or.inl (in_8 (List.mem_of_getElem? (i := 116) rfl))
theorem lk_M_418 : lnkOk "BreathTownModel" 418 y_M_roundOf := Or.inl (in_8 (List.mem_of_getElem? (i := 120) rfl))
theorem lk_M_437 : lnkOk "BreathTownModel" 437 y_M_widthOf := Or.inl (in_8 (List.mem_of_getElem? (i := 124) rfl))
theorem lk_M_434 : lnkOk "BreathTownModel" 434 y_M_widthBy := Or.inl (in_8 (List.mem_of_getElem? (i := 128) rfl))
theorem lk_M_425 : lnkOk "BreathTownModel" 425 y_M_told := Or.inl (in_8 (List.mem_of_getElem? (i := 132) rfl))
theorem lk_M_394 : lnkOk "BreathTownModel" 394 y_M_puts := Or.inl (in_8 (List.mem_of_getElem? (i := 136) rfl))
theorem lk_M_406 : lnkOk "BreathTownModel" 406 y_M_joins := Or.inl (in_8 (List.mem_of_getElem? (i := 142) rfl))
theorem lk_M_390 : lnkOk "BreathTownModel" 390 y_M_clip := Or.inl (in_8 (List.mem_of_getElem? (i := 146) rfl))
theorem lk_M_398 : lnkOk "BreathTownModel" 398 y_M_floor := Or.inl (in_8 (List.mem_of_getElem? (i := 151) rfl))
theorem lk_Law_50 : lnkOk "BreathTownLaw" 50 y_M_walker := Or.inl (in_8 (List.mem_of_getElem? (i := 155) rfl))
theorem lk_M_512 : lnkOk "BreathTownModel" 512 y_M_isWalker := Or.inl (in_8 (List.mem_of_getElem? (i := 159) rfl))
theorem lk_M_477 : lnkOk "BreathTownModel" 477 y_M_broadOf := Or.inl (in_8 (List.mem_of_getElem? (i := 163) rfl))
theorem lk_M_471 : lnkOk "BreathTownModel" 471 y_M_placeOf := Or.inl (in_8 (List.mem_of_getElem? (i := 167) rfl))
theorem lk_M_493 : lnkOk "BreathTownModel" 493 y_M_goalOf := Or.inl (in_8 (List.mem_of_getElem? (i := 171) rfl))
theorem lk_Law_54 : lnkOk "BreathTownLaw" 54 y_M_width := Or.inl (in_8 (List.mem_of_getElem? (i := 175) rfl))
theorem lk_M_517 : lnkOk "BreathTownModel" 517 y_M_isHour := Or.inl (in_8 (List.mem_of_getElem? (i := 179) rfl))
theorem lk_Law_58 : lnkOk "BreathTownLaw" 58 y_M_passes := Or.inl (in_8 (List.mem_of_getElem? (i := 183) rfl))
theorem lk_M_450 : lnkOk "BreathTownModel" 450 y_M_isPassed := Or.inl (in_8 (List.mem_of_getElem? (i := 187) rfl))
theorem lk_M_440 : lnkOk "BreathTownModel" 440 y_M_takesOf := Or.inl (in_8 (List.mem_of_getElem? (i := 191) rfl))
theorem lk_M_443 : lnkOk "BreathTownModel" 443 y_M_isWide := Or.inl (in_8 (List.mem_of_getElem? (i := 195) rfl))
theorem lk_Law_62 : lnkOk "BreathTownLaw" 62 y_M_next := Or.inl (in_8 (List.mem_of_getElem? (i := 199) rfl))
theorem lk_Law_67 : lnkOk "BreathTownLaw" 67 y_M_often := Or.inl (in_8 (List.mem_of_getElem? (i := 203) rfl))
theorem lk_Law_71 : lnkOk "BreathTownLaw" 71 y_M_wide := Or.inl (in_8 (List.mem_of_getElem? (i := 208) rfl))
theorem lk_M_522 : lnkOk "BreathTownModel" 522 y_M_areWide := Or.inl (in_8 (List.mem_of_getElem? (i := 212) rfl))
theorem lk_Law_75 : lnkOk "BreathTownLaw" 75 y_M_way := Or.inl (in_8 (List.mem_of_getElem? (i := 216) rfl))
theorem lk_M_525 : lnkOk "BreathTownModel" 525 y_M_hasWay := Or.inl (in_8 (List.mem_of_getElem? (i := 220) rfl))
theorem lk_M_484 : lnkOk "BreathTownModel" 484 y_M_findsWay := Or.inl (in_8 (List.mem_of_getElem? (i := 224) rfl))
theorem lk_M_487 : lnkOk "BreathTownModel" 487 y_M_spreadsFor := Or.inl (in_8 (List.mem_of_getElem? (i := 228) rfl))
theorem lk_M_474 : lnkOk "BreathTownModel" 474 y_M_setsOut := Or.inl (in_8 (List.mem_of_getElem? (i := 232) rfl))
theorem lk_M_480 : lnkOk "BreathTownModel" 480 y_M_spreads := Or.inl (in_8 (List.mem_of_getElem? (i := 236) rfl))
theorem lk_M_467 : lnkOk "BreathTownModel" 467 y_M_improves := Or.inl (in_9 (List.mem_of_getElem? (i := 1) rfl))
theorem lk_M_460 : lnkOk "BreathTownModel" 460 y_M_taken := Or.inl (in_9 (List.mem_of_getElem? (i := 5) rfl))
theorem lk_M_456 : lnkOk "BreathTownModel" 456 y_M_isFree := Or.inl (in_9 (List.mem_of_getElem? (i := 9) rfl))
theorem lk_M_453 : lnkOk "BreathTownModel" 453 y_M_crowdIn := Or.inl (in_9 (List.mem_of_getElem? (i := 13) rfl))
theorem lk_M_496 : lnkOk "BreathTownModel" 496 y_M_stepsBack := Or.inl (in_9 (List.mem_of_getElem? (i := 17) rfl))
theorem lk_M_499 : lnkOk "BreathTownModel" 499 y_M_other := Or.inl (in_9 (List.mem_of_getElem? (i := 21) rfl))
theorem lk_Law_79 : lnkOk "BreathTownLaw" 79 y_M_arrival := Or.inl (in_9 (List.mem_of_getElem? (i := 26) rfl))
theorem lk_M_530 : lnkOk "BreathTownModel" 530 y_M_isPlace := Or.inl (in_9 (List.mem_of_getElem? (i := 30) rfl))
theorem lk_Law_83 : lnkOk "BreathTownLaw" 83 y_M_stuck := Or.inl (in_9 (List.mem_of_getElem? (i := 34) rfl))
theorem lk_M_533 : lnkOk "BreathTownModel" 533 y_M_measures := Or.inl (in_9 (List.mem_of_getElem? (i := 38) rfl))
theorem lk_M_536 : lnkOk "BreathTownModel" 536 y_M_shortBack := Or.inl (in_9 (List.mem_of_getElem? (i := 42) rfl))
theorem lk_Law_87 : lnkOk "BreathTownLaw" 87 y_M_needed := Or.inl (in_9 (List.mem_of_getElem? (i := 46) rfl))
theorem lk_Law_91 : lnkOk "BreathTownLaw" 91 y_M_parade := Or.inl (in_9 (List.mem_of_getElem? (i := 50) rfl))
theorem lk_M_541 : lnkOk "BreathTownModel" 541 y_M_isParade := Or.inl (in_9 (List.mem_of_getElem? (i := 55) rfl))
theorem lk_Law_95 : lnkOk "BreathTownLaw" 95 y_M_rows := Or.inl (in_9 (List.mem_of_getElem? (i := 59) rfl))
theorem lk_M_554 : lnkOk "BreathTownModel" 554 y_M_isOrder := Or.inl (in_9 (List.mem_of_getElem? (i := 65) rfl))
theorem lk_M_558 : lnkOk "BreathTownModel" 558 y_M_allGo := Or.inl (in_9 (List.mem_of_getElem? (i := 69) rfl))
theorem lk_M_561 : lnkOk "BreathTownModel" 561 y_M_weighs := Or.inl (in_9 (List.mem_of_getElem? (i := 73) rfl))
theorem lk_Law_99 : lnkOk "BreathTownLaw" 99 y_M_doctors := Or.inl (in_9 (List.mem_of_getElem? (i := 77) rfl))
theorem lk_M_575 : lnkOk "BreathTownModel" 575 y_M_reaches := Or.inl (in_9 (List.mem_of_getElem? (i := 82) rfl))
theorem lk_M_578 : lnkOk "BreathTownModel" 578 y_M_seeksDoctors := Or.inl (in_9 (List.mem_of_getElem? (i := 86) rfl))
theorem lk_M_570 : lnkOk "BreathTownModel" 570 y_M_isFound := Or.inl (in_9 (List.mem_of_getElem? (i := 90) rfl))
theorem lk_M_564 : lnkOk "BreathTownModel" 564 y_M_areEnough := Or.inl (in_9 (List.mem_of_getElem? (i := 94) rfl))
theorem lk_Law_120 : lnkOk "BreathTownLaw" 120 y_M_undo := Or.inl (in_9 (List.mem_of_getElem? (i := 98) rfl))
theorem lk_Law_103 : lnkOk "BreathTownLaw" 103 y_M_go := Or.inl (in_9 (List.mem_of_getElem? (i := 102) rfl))
theorem lk_M_586 : lnkOk "BreathTownModel" 586 y_M_keeps := Or.inl (in_9 (List.mem_of_getElem? (i := 107) rfl))
theorem lk_Law_107 : lnkOk "BreathTownLaw" 107 y_M_send := Or.inl (in_9 (List.mem_of_getElem? (i := 111) rfl))
theorem lk_Law_111 : lnkOk "BreathTownLaw" 111 y_M_hold := Or.inl (in_9 (List.mem_of_getElem? (i := 115) rfl))
theorem lk_M_589 : lnkOk "BreathTownModel" 589 y_M_shifts0 := Or.inl (in_9 (List.mem_of_getElem? (i := 119) rfl))
theorem lk_Law_124 : lnkOk "BreathTownLaw" 124 y_M_seed := Or.inl (in_9 (List.mem_of_getElem? (i := 123) rfl))
theorem lk_Law_115 : lnkOk "BreathTownLaw" 115 y_M_days := Or.inl (in_9 (List.mem_of_getElem? (i := 127) rfl))
theorem lk_M_602 : lnkOk "BreathTownModel" 602 y_M_drawOf := Or.inl (in_9 (List.mem_of_getElem? (i := 132) rfl))
theorem lk_Law_128 : lnkOk "BreathTownLaw" 128 y_M_see := Or.inl (in_9 (List.mem_of_getElem? (i := 140) rfl))
theorem lk_M_605 : lnkOk "BreathTownModel" 605 y_M_areRows := Or.inl (in_9 (List.mem_of_getElem? (i := 144) rfl))
theorem lk_Law_132 : lnkOk "BreathTownLaw" 132 y_M_shifts := Or.inl (in_9 (List.mem_of_getElem? (i := 148) rfl))
theorem lk_M_608 : lnkOk "BreathTownModel" 608 y_M_isShift := Or.inl (in_9 (List.mem_of_getElem? (i := 152) rfl))
theorem lk_Law_136 : lnkOk "BreathTownLaw" 136 y_M_telling := Or.inl (in_9 (List.mem_of_getElem? (i := 156) rfl))
theorem lk_M_611 : lnkOk "BreathTownModel" 611 y_M_alikeIn := Or.inl (in_9 (List.mem_of_getElem? (i := 160) rfl))
theorem lk_Law_141 : lnkOk "BreathTownLaw" 141 y_M_ask := Or.inl (in_9 (List.mem_of_getElem? (i := 164) rfl))
theorem lk_M_712 : lnkOk "BreathTownModel" 712 y_M_qKind := Or.inl (in_9 (List.mem_of_getElem? (i := 168) rfl))
theorem lk_M_715 : lnkOk "BreathTownModel" 715 y_M_qTest := Or.inl (in_9 (List.mem_of_getElem? (i := 172) rfl))
theorem lk_M_641 : lnkOk "BreathTownModel" 641 y_M_qOpens := Or.inl (in_9 (List.mem_of_getElem? (i := 176) rfl))
theorem lk_M_668 : lnkOk "BreathTownModel" 668 y_M_qFact := Or.inl (in_9 (List.mem_of_getElem? (i := 180) rfl))
theorem lk_M_623 : lnkOk "BreathTownModel" 623 y_M_qCode := Or.inl (in_9 (List.mem_of_getElem? (i := 184) rfl))
theorem lk_M_665 : lnkOk "BreathTownModel" 665 y_M_qSums := Or.inl (in_9 (List.mem_of_getElem? (i := 188) rfl))
theorem lk_M_659 : lnkOk "BreathTownModel" 659 y_M_qPartTold := Or.inl (in_9 (List.mem_of_getElem? (i := 192) rfl))
theorem lk_M_638 : lnkOk "BreathTownModel" 638 y_M_qWordOf := Or.inl (in_9 (List.mem_of_getElem? (i := 196) rfl))
theorem lk_M_635 : lnkOk "BreathTownModel" 635 y_M_qWordHere := Or.inl (in_9 (List.mem_of_getElem? (i := 200) rfl))
theorem lk_M_644 : lnkOk "BreathTownModel" 644 y_M_qAsksWord := Or.inl (in_9 (List.mem_of_getElem? (i := 204) rfl))
theorem lk_M_647 : lnkOk "BreathTownModel" 647 y_M_qEndsPart := Or.inl (in_9 (List.mem_of_getElem? (i := 208) rfl))
theorem lk_M_632 : lnkOk "BreathTownModel" 632 y_M_qDrops := Or.inl (in_9 (List.mem_of_getElem? (i := 212) rfl))
theorem lk_M_662 : lnkOk "BreathTownModel" 662 y_M_qGoesOn := Or.inl (in_9 (List.mem_of_getElem? (i := 216) rfl))
theorem lk_M_650 : lnkOk "BreathTownModel" 650 y_M_qBracket := Or.inl (in_9 (List.mem_of_getElem? (i := 220) rfl))
theorem lk_M_629 : lnkOk "BreathTownModel" 629 y_M_qIsBracket := Or.inl (in_9 (List.mem_of_getElem? (i := 224) rfl))
theorem lk_M_653 : lnkOk "BreathTownModel" 653 y_M_qDropsToBracket := Or.inl (in_9 (List.mem_of_getElem? (i := 227) rfl))
theorem lk_M_656 : lnkOk "BreathTownModel" 656 y_M_qIsOn := Or.inl (in_9 (List.mem_of_getElem? (i := 231) rfl))
theorem lk_M_671 : lnkOk "BreathTownModel" 671 y_M_qDropsNots := Or.inl (in_9 (List.mem_of_getElem? (i := 235) rfl))
theorem lk_M_674 : lnkOk "BreathTownModel" 674 y_M_qGoesOnTest := Or.inl (in_9 (List.mem_of_getElem? (i := 239) rfl))
theorem lk_M_677 : lnkOk "BreathTownModel" 677 y_M_qHasSquare := Or.inl (in_10 (List.mem_of_getElem? (i := 3) rfl))
theorem lk_M_720 : lnkOk "BreathTownModel" 720 y_M_qTold := Or.inl (in_10 (List.mem_of_getElem? (i := 8) rfl))
theorem lk_M_686 : lnkOk "BreathTownModel" 686 y_M_qPuts := Or.inl (in_10 (List.mem_of_getElem? (i := 12) rfl))
theorem lk_M_695 : lnkOk "BreathTownModel" 695 y_M_qOf := Or.inl (in_10 (List.mem_of_getElem? (i := 16) rfl))
theorem lk_M_692 : lnkOk "BreathTownModel" 692 y_M_passedBy := Or.inl (in_10 (List.mem_of_getElem? (i := 20) rfl))
theorem lk_M_683 : lnkOk "BreathTownModel" 683 y_M_qClip := Or.inl (in_10 (List.mem_of_getElem? (i := 24) rfl))
theorem lk_M_699 : lnkOk "BreathTownModel" 699 y_M_qPartOf := Or.inl (in_10 (List.mem_of_getElem? (i := 27) rfl))
theorem lk_M_702 : lnkOk "BreathTownModel" 702 y_M_qJoins := Or.inl (in_10 (List.mem_of_getElem? (i := 31) rfl))
theorem lk_M_689 : lnkOk "BreathTownModel" 689 y_M_qFloor := Or.inl (in_10 (List.mem_of_getElem? (i := 35) rfl))
theorem lk_M_724 : lnkOk "BreathTownModel" 724 y_M_qTakes := Or.inl (in_10 (List.mem_of_getElem? (i := 38) rfl))
theorem lk_Law_145 : lnkOk "BreathTownLaw" 145 y_M_image := Or.inl (in_10 (List.mem_of_getElem? (i := 42) rfl))
theorem lk_M_731 : lnkOk "BreathTownModel" 731 y_M_writes := Or.inl (in_10 (List.mem_of_getElem? (i := 46) rfl))
theorem lk_M_734 : lnkOk "BreathTownModel" 734 y_M_checked := Or.inl (in_10 (List.mem_of_getElem? (i := 50) rfl))
theorem lk_Law_149 : lnkOk "BreathTownLaw" 149 y_M_octet := Or.inl (in_10 (List.mem_of_getElem? (i := 53) rfl))
theorem lk_Law_153 : lnkOk "BreathTownLaw" 153 y_M_on := Or.inl (in_10 (List.mem_of_getElem? (i := 57) rfl))
theorem lk_M_738 : lnkOk "BreathTownModel" 738 y_M_isTold := Or.inl (in_10 (List.mem_of_getElem? (i := 61) rfl))
theorem lk_Law_157 : lnkOk "BreathTownLaw" 157 y_M_status := Or.inl (in_10 (List.mem_of_getElem? (i := 65) rfl))
def yG (w : Nat) : MethodName := match w with
  | 0 => y_Reader_sum
  | 1 => y_Reader_product
  | 2 => y_Reader_part
  | 3 => y_Reader_pair
  | 4 => y_Reader_askedPart
  | 5 => y_Reader_test
  | 6 => y_Reader_both
  | _ => y_Reader_fact
