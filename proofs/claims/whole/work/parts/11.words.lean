theorem am_w1 {w : Cond} (i : Nat) (h : tables_1_1[i]? = some w) : w ∈ lw_tbl := by
  have h := List.mem_of_getElem? h
  exact List.mem_append_right _ (by unfold tables_1; simp only [List.mem_append]; exact Or.inl h)
theorem am_w2 {w : Cond} (i : Nat) (h : tables_1_2[i]? = some w) : w ∈ lw_tbl := by
  have h := List.mem_of_getElem? h
  exact List.mem_append_right _ (by unfold tables_1; simp only [List.mem_append]; exact Or.inr (Or.inl h))
theorem am_w3 {w : Cond} (i : Nat) (h : tables_1_3[i]? = some w) : w ∈ lw_tbl := by
  have h := List.mem_of_getElem? h
  exact List.mem_append_right _ (by unfold tables_1; simp only [List.mem_append]; exact Or.inr (Or.inr (Or.inl h)))
theorem am_w4 {w : Cond} (i : Nat) (h : tables_1_4[i]? = some w) : w ∈ lw_tbl := by
  have h := List.mem_of_getElem? h
  exact List.mem_append_right _ (by unfold tables_1; simp only [List.mem_append]; exact Or.inr (Or.inr (Or.inr (Or.inl h))))
theorem am_w5 {w : Cond} (i : Nat) (h : tables_1_5[i]? = some w) : w ∈ lw_tbl := by
  have h := List.mem_of_getElem? h
  exact List.mem_append_right _ (by unfold tables_1; simp only [List.mem_append]; exact Or.inr (Or.inr (Or.inr (Or.inr (Or.inl h)))))
theorem am_w6 {w : Cond} (i : Nat) (h : tables_1_6[i]? = some w) : w ∈ lw_tbl := by
  have h := List.mem_of_getElem? h
  exact List.mem_append_right _ (by unfold tables_1; simp only [List.mem_append]; exact Or.inr (Or.inr (Or.inr (Or.inr (Or.inr h)))))
theorem am_wp {q : MethodName × Nat} (i : Nat) (h : lw_privs[i]? = some q) : Cond.selects q.1.cls q.1 q.1 ∈ lw_tbl := List.mem_append_left _ (List.mem_map.mpr ⟨q, List.mem_of_getElem? h, rfl⟩)
theorem am_ref_cl : ∀ q ∈ am_keys, ∀ k, k < am_nf q.1 → am_fk q.1 k = 2 → am_ref q.1 k q.2 ∈ am_keys := by decide +kernel
theorem am_el_cl : ∀ q ∈ am_keys, am_ak q.1 = 3 → ∀ k, k < am_len q.1 → (4, am_el q.1 q.2 k) ∈ am_keys := by decide +kernel
theorem gf_0_0 : 0 < am_nf 0 := by decide +kernel
theorem gz_0_0 : am_fk 0 0 = 2 := rfl
theorem rl_0_0 : ∀ i, (0, i) ∈ am_keys → am_ref 0 0 i ∈ am_keys := fun i h => am_ref_cl _ h 0 gf_0_0 gz_0_0
theorem gf_0_1 : 1 < am_nf 0 := by decide +kernel
theorem gz_0_1 : am_fk 0 1 = 2 := rfl
theorem rl_0_1 : ∀ i, (0, i) ∈ am_keys → am_ref 0 1 i ∈ am_keys := fun i h => am_ref_cl _ h 1 gf_0_1 gz_0_1
theorem gf_0_2 : 2 < am_nf 0 := by decide +kernel
theorem gz_0_2 : am_fk 0 2 = 2 := rfl
theorem rl_0_2 : ∀ i, (0, i) ∈ am_keys → am_ref 0 2 i ∈ am_keys := fun i h => am_ref_cl _ h 2 gf_0_2 gz_0_2
theorem gf_0_3 : 3 < am_nf 0 := by decide +kernel
theorem gz_0_3 : am_fk 0 3 = 2 := rfl
theorem rl_0_3 : ∀ i, (0, i) ∈ am_keys → am_ref 0 3 i ∈ am_keys := fun i h => am_ref_cl _ h 3 gf_0_3 gz_0_3
theorem gf_0_4 : 4 < am_nf 0 := by decide +kernel
theorem gz_0_4 : am_fk 0 4 = 2 := rfl
theorem rl_0_4 : ∀ i, (0, i) ∈ am_keys → am_ref 0 4 i ∈ am_keys := fun i h => am_ref_cl _ h 4 gf_0_4 gz_0_4
theorem gf_0_5 : 5 < am_nf 0 := by decide +kernel
theorem gz_0_5 : am_fk 0 5 = 2 := rfl
theorem rl_0_5 : ∀ i, (0, i) ∈ am_keys → am_ref 0 5 i ∈ am_keys := fun i h => am_ref_cl _ h 5 gf_0_5 gz_0_5
theorem gf_0_6 : 6 < am_nf 0 := by decide +kernel
theorem gz_0_6 : am_fk 0 6 = 2 := rfl
theorem rl_0_6 : ∀ i, (0, i) ∈ am_keys → am_ref 0 6 i ∈ am_keys := fun i h => am_ref_cl _ h 6 gf_0_6 gz_0_6
theorem gf_0_7 : 7 < am_nf 0 := by decide +kernel
theorem gz_0_7 : am_fk 0 7 = 2 := rfl
theorem rl_0_7 : ∀ i, (0, i) ∈ am_keys → am_ref 0 7 i ∈ am_keys := fun i h => am_ref_cl _ h 7 gf_0_7 gz_0_7
theorem gf_0_8 : 8 < am_nf 0 := by decide +kernel
theorem gz_0_8 : am_fk 0 8 = 0 ∨ am_fk 0 8 = 1 := Or.inr rfl
theorem gf_0_9 : 9 < am_nf 0 := by decide +kernel
theorem gz_0_9 : am_fk 0 9 = 0 ∨ am_fk 0 9 = 1 := Or.inl rfl
theorem gf_0_10 : 10 < am_nf 0 := by decide +kernel
theorem gz_0_10 : am_fk 0 10 = 0 ∨ am_fk 0 10 = 1 := Or.inl rfl
theorem gf_0_11 : 11 < am_nf 0 := by decide +kernel
theorem gz_0_11 : am_fk 0 11 = 0 ∨ am_fk 0 11 = 1 := Or.inl rfl
theorem gf_1_0 : 0 < am_nf 1 := by decide +kernel
theorem gz_1_0 : am_fk 1 0 = 2 := rfl
theorem rl_1_0 : ∀ i, (1, i) ∈ am_keys → am_ref 1 0 i ∈ am_keys := fun i h => am_ref_cl _ h 0 gf_1_0 gz_1_0
theorem gf_1_1 : 1 < am_nf 1 := by decide +kernel
theorem gz_1_1 : am_fk 1 1 = 2 := rfl
theorem rl_1_1 : ∀ i, (1, i) ∈ am_keys → am_ref 1 1 i ∈ am_keys := fun i h => am_ref_cl _ h 1 gf_1_1 gz_1_1
theorem gf_1_2 : 2 < am_nf 1 := by decide +kernel
theorem gz_1_2 : am_fk 1 2 = 0 ∨ am_fk 1 2 = 1 := Or.inl rfl
theorem gf_1_3 : 3 < am_nf 1 := by decide +kernel
theorem gz_1_3 : am_fk 1 3 = 0 ∨ am_fk 1 3 = 1 := Or.inl rfl
theorem gf_1_4 : 4 < am_nf 1 := by decide +kernel
theorem gz_1_4 : am_fk 1 4 = 0 ∨ am_fk 1 4 = 1 := Or.inl rfl
theorem gf_2_0 : 0 < am_nf 2 := by decide +kernel
theorem gz_2_0 : am_fk 2 0 = 2 := rfl
theorem rl_2_0 : ∀ i, (2, i) ∈ am_keys → am_ref 2 0 i ∈ am_keys := fun i h => am_ref_cl _ h 0 gf_2_0 gz_2_0
theorem gf_2_1 : 1 < am_nf 2 := by decide +kernel
theorem gz_2_1 : am_fk 2 1 = 2 := rfl
theorem rl_2_1 : ∀ i, (2, i) ∈ am_keys → am_ref 2 1 i ∈ am_keys := fun i h => am_ref_cl _ h 1 gf_2_1 gz_2_1
theorem gf_2_2 : 2 < am_nf 2 := by decide +kernel
theorem gz_2_2 : am_fk 2 2 = 2 := rfl
theorem rl_2_2 : ∀ i, (2, i) ∈ am_keys → am_ref 2 2 i ∈ am_keys := fun i h => am_ref_cl _ h 2 gf_2_2 gz_2_2
theorem gf_2_3 : 3 < am_nf 2 := by decide +kernel
theorem gz_2_3 : am_fk 2 3 = 0 ∨ am_fk 2 3 = 1 := Or.inl rfl
theorem gf_3_0 : 0 < am_nf 3 := by decide +kernel
theorem gz_3_0 : am_fk 3 0 = 2 := rfl
theorem rl_3_0 : ∀ i, (3, i) ∈ am_keys → am_ref 3 0 i ∈ am_keys := fun i h => am_ref_cl _ h 0 gf_3_0 gz_3_0
theorem gf_3_1 : 1 < am_nf 3 := by decide +kernel
theorem gz_3_1 : am_fk 3 1 = 0 ∨ am_fk 3 1 = 1 := Or.inl rfl
theorem gf_3_2 : 2 < am_nf 3 := by decide +kernel
theorem gz_3_2 : am_fk 3 2 = 0 ∨ am_fk 3 2 = 1 := Or.inl rfl
theorem gf_3_3 : 3 < am_nf 3 := by decide +kernel
theorem gz_3_3 : am_fk 3 3 = 0 ∨ am_fk 3 3 = 1 := Or.inl rfl
theorem gf_3_4 : 4 < am_nf 3 := by decide +kernel
theorem gz_3_4 : am_fk 3 4 = 0 ∨ am_fk 3 4 = 1 := Or.inl rfl
theorem gf_4_0 : 0 < am_nf 4 := by decide +kernel
theorem gz_4_0 : am_fk 4 0 = 2 := rfl
theorem rl_4_0 : ∀ i, (4, i) ∈ am_keys → am_ref 4 0 i ∈ am_keys := fun i h => am_ref_cl _ h 0 gf_4_0 gz_4_0
theorem gf_4_1 : 1 < am_nf 4 := by decide +kernel
theorem gz_4_1 : am_fk 4 1 = 3 := rfl
theorem gf_4_2 : 2 < am_nf 4 := by decide +kernel
theorem gz_4_2 : am_fk 4 2 = 0 ∨ am_fk 4 2 = 1 := Or.inl rfl
theorem gf_4_3 : 3 < am_nf 4 := by decide +kernel
theorem gz_4_3 : am_fk 4 3 = 0 ∨ am_fk 4 3 = 1 := Or.inl rfl
theorem gf_4_4 : 4 < am_nf 4 := by decide +kernel
theorem gz_4_4 : am_fk 4 4 = 0 ∨ am_fk 4 4 = 1 := Or.inr rfl
theorem gf_4_5 : 5 < am_nf 4 := by decide +kernel
theorem gz_4_5 : am_fk 4 5 = 0 ∨ am_fk 4 5 = 1 := Or.inr rfl
theorem gf_5_0 : 0 < am_nf 5 := by decide +kernel
theorem gz_5_0 : am_fk 5 0 = 2 := rfl
theorem rl_5_0 : ∀ i, (5, i) ∈ am_keys → am_ref 5 0 i ∈ am_keys := fun i h => am_ref_cl _ h 0 gf_5_0 gz_5_0
theorem gf_5_1 : 1 < am_nf 5 := by decide +kernel
theorem gz_5_1 : am_fk 5 1 = 0 ∨ am_fk 5 1 = 1 := Or.inl rfl
theorem gf_6_0 : 0 < am_nf 6 := by decide +kernel
theorem gz_6_0 : am_fk 6 0 = 2 := rfl
theorem rl_6_0 : ∀ i, (6, i) ∈ am_keys → am_ref 6 0 i ∈ am_keys := fun i h => am_ref_cl _ h 0 gf_6_0 gz_6_0
theorem gf_6_1 : 1 < am_nf 6 := by decide +kernel
theorem gz_6_1 : am_fk 6 1 = 0 ∨ am_fk 6 1 = 1 := Or.inl rfl
theorem gf_6_2 : 2 < am_nf 6 := by decide +kernel
theorem gz_6_2 : am_fk 6 2 = 0 ∨ am_fk 6 2 = 1 := Or.inl rfl
theorem gf_6_3 : 3 < am_nf 6 := by decide +kernel
theorem gz_6_3 : am_fk 6 3 = 0 ∨ am_fk 6 3 = 1 := Or.inl rfl
theorem gf_6_4 : 4 < am_nf 6 := by decide +kernel
theorem gz_6_4 : am_fk 6 4 = 0 ∨ am_fk 6 4 = 1 := Or.inl rfl
theorem gf_6_5 : 5 < am_nf 6 := by decide +kernel
theorem gz_6_5 : am_fk 6 5 = 0 ∨ am_fk 6 5 = 1 := Or.inl rfl
theorem gf_7_0 : 0 < am_nf 7 := by decide +kernel
theorem gz_7_0 : am_fk 7 0 = 2 := rfl
theorem rl_7_0 : ∀ i, (7, i) ∈ am_keys → am_ref 7 0 i ∈ am_keys := fun i h => am_ref_cl _ h 0 gf_7_0 gz_7_0
theorem gf_7_1 : 1 < am_nf 7 := by decide +kernel
theorem gz_7_1 : am_fk 7 1 = 2 := rfl
theorem rl_7_1 : ∀ i, (7, i) ∈ am_keys → am_ref 7 1 i ∈ am_keys := fun i h => am_ref_cl _ h 1 gf_7_1 gz_7_1
theorem gf_7_2 : 2 < am_nf 7 := by decide +kernel
theorem gz_7_2 : am_fk 7 2 = 0 ∨ am_fk 7 2 = 1 := Or.inr rfl
theorem gf_7_3 : 3 < am_nf 7 := by decide +kernel
theorem gz_7_3 : am_fk 7 3 = 0 ∨ am_fk 7 3 = 1 := Or.inl rfl
theorem gf_7_4 : 4 < am_nf 7 := by decide +kernel
theorem gz_7_4 : am_fk 7 4 = 0 ∨ am_fk 7 4 = 1 := Or.inl rfl
theorem gf_7_5 : 5 < am_nf 7 := by decide +kernel
theorem gz_7_5 : am_fk 7 5 = 0 ∨ am_fk 7 5 = 1 := Or.inl rfl
theorem gf_7_6 : 6 < am_nf 7 := by decide +kernel
theorem gz_7_6 : am_fk 7 6 = 0 ∨ am_fk 7 6 = 1 := Or.inl rfl
theorem gf_32_0 : 0 < am_nf 32 := by decide +kernel
theorem gz_32_0 : am_fk 32 0 = 0 ∨ am_fk 32 0 = 1 := Or.inr rfl
theorem gf_32_1 : 1 < am_nf 32 := by decide +kernel
theorem gz_32_1 : am_fk 32 1 = 0 ∨ am_fk 32 1 = 1 := Or.inl rfl
theorem gf_32_2 : 2 < am_nf 32 := by decide +kernel
theorem gz_32_2 : am_fk 32 2 = 0 ∨ am_fk 32 2 = 1 := Or.inl rfl
theorem gf_32_3 : 3 < am_nf 32 := by decide +kernel
theorem gz_32_3 : am_fk 32 3 = 2 := rfl
theorem rl_32_3 : ∀ i, (32, i) ∈ am_keys → am_ref 32 3 i ∈ am_keys := fun i h => am_ref_cl _ h 3 gf_32_3 gz_32_3
theorem gf_32_4 : 4 < am_nf 32 := by decide +kernel
theorem gz_32_4 : am_fk 32 4 = 2 := rfl
theorem rl_32_4 : ∀ i, (32, i) ∈ am_keys → am_ref 32 4 i ∈ am_keys := fun i h => am_ref_cl _ h 4 gf_32_4 gz_32_4
theorem gf_32_5 : 5 < am_nf 32 := by decide +kernel
theorem gz_32_5 : am_fk 32 5 = 2 := rfl
theorem rl_32_5 : ∀ i, (32, i) ∈ am_keys → am_ref 32 5 i ∈ am_keys := fun i h => am_ref_cl _ h 5 gf_32_5 gz_32_5
theorem gf_32_6 : 6 < am_nf 32 := by decide +kernel
theorem gz_32_6 : am_fk 32 6 = 0 ∨ am_fk 32 6 = 1 := Or.inl rfl
theorem gf_32_7 : 7 < am_nf 32 := by decide +kernel
theorem gz_32_7 : am_fk 32 7 = 0 ∨ am_fk 32 7 = 1 := Or.inl rfl
theorem gf_32_8 : 8 < am_nf 32 := by decide +kernel
theorem gz_32_8 : am_fk 32 8 = 2 := rfl
theorem rl_32_8 : ∀ i, (32, i) ∈ am_keys → am_ref 32 8 i ∈ am_keys := fun i h => am_ref_cl _ h 8 gf_32_8 gz_32_8
theorem gf_32_9 : 9 < am_nf 32 := by decide +kernel
theorem gz_32_9 : am_fk 32 9 = 2 := rfl
theorem rl_32_9 : ∀ i, (32, i) ∈ am_keys → am_ref 32 9 i ∈ am_keys := fun i h => am_ref_cl _ h 9 gf_32_9 gz_32_9
theorem gf_32_10 : 10 < am_nf 32 := by decide +kernel
theorem gz_32_10 : am_fk 32 10 = 2 := rfl
theorem rl_32_10 : ∀ i, (32, i) ∈ am_keys → am_ref 32 10 i ∈ am_keys := fun i h => am_ref_cl _ h 10 gf_32_10 gz_32_10
theorem gf_32_11 : 11 < am_nf 32 := by decide +kernel
theorem gz_32_11 : am_fk 32 11 = 2 := rfl
theorem rl_32_11 : ∀ i, (32, i) ∈ am_keys → am_ref 32 11 i ∈ am_keys := fun i h => am_ref_cl _ h 11 gf_32_11 gz_32_11
theorem gf_32_12 : 12 < am_nf 32 := by decide +kernel
theorem gz_32_12 : am_fk 32 12 = 2 := rfl
theorem rl_32_12 : ∀ i, (32, i) ∈ am_keys → am_ref 32 12 i ∈ am_keys := fun i h => am_ref_cl _ h 12 gf_32_12 gz_32_12
theorem gf_32_13 : 13 < am_nf 32 := by decide +kernel
theorem gz_32_13 : am_fk 32 13 = 2 := rfl
theorem rl_32_13 : ∀ i, (32, i) ∈ am_keys → am_ref 32 13 i ∈ am_keys := fun i h => am_ref_cl _ h 13 gf_32_13 gz_32_13
theorem gf_32_14 : 14 < am_nf 32 := by decide +kernel
theorem gz_32_14 : am_fk 32 14 = 2 := rfl
theorem rl_32_14 : ∀ i, (32, i) ∈ am_keys → am_ref 32 14 i ∈ am_keys := fun i h => am_ref_cl _ h 14 gf_32_14 gz_32_14
theorem gf_32_15 : 15 < am_nf 32 := by decide +kernel
theorem gz_32_15 : am_fk 32 15 = 0 ∨ am_fk 32 15 = 1 := Or.inl rfl
theorem gf_32_16 : 16 < am_nf 32 := by decide +kernel
theorem gz_32_16 : am_fk 32 16 = 0 ∨ am_fk 32 16 = 1 := Or.inl rfl
theorem gf_32_17 : 17 < am_nf 32 := by decide +kernel
theorem gz_32_17 : am_fk 32 17 = 2 := rfl
theorem rl_32_17 : ∀ i, (32, i) ∈ am_keys → am_ref 32 17 i ∈ am_keys := fun i h => am_ref_cl _ h 17 gf_32_17 gz_32_17
theorem gf_32_18 : 18 < am_nf 32 := by decide +kernel
theorem gz_32_18 : am_fk 32 18 = 0 ∨ am_fk 32 18 = 1 := Or.inl rfl
theorem gf_32_19 : 19 < am_nf 32 := by decide +kernel
theorem gz_32_19 : am_fk 32 19 = 0 ∨ am_fk 32 19 = 1 := Or.inr rfl
theorem gf_32_20 : 20 < am_nf 32 := by decide +kernel
theorem gz_32_20 : am_fk 32 20 = 0 ∨ am_fk 32 20 = 1 := Or.inl rfl
theorem gf_32_21 : 21 < am_nf 32 := by decide +kernel
theorem gz_32_21 : am_fk 32 21 = 0 ∨ am_fk 32 21 = 1 := Or.inl rfl
theorem gf_32_22 : 22 < am_nf 32 := by decide +kernel
theorem gz_32_22 : am_fk 32 22 = 2 := rfl
theorem rl_32_22 : ∀ i, (32, i) ∈ am_keys → am_ref 32 22 i ∈ am_keys := fun i h => am_ref_cl _ h 22 gf_32_22 gz_32_22
theorem gf_32_23 : 23 < am_nf 32 := by decide +kernel
theorem gz_32_23 : am_fk 32 23 = 2 := rfl
theorem rl_32_23 : ∀ i, (32, i) ∈ am_keys → am_ref 32 23 i ∈ am_keys := fun i h => am_ref_cl _ h 23 gf_32_23 gz_32_23
theorem gf_32_24 : 24 < am_nf 32 := by decide +kernel
theorem gz_32_24 : am_fk 32 24 = 2 := rfl
theorem rl_32_24 : ∀ i, (32, i) ∈ am_keys → am_ref 32 24 i ∈ am_keys := fun i h => am_ref_cl _ h 24 gf_32_24 gz_32_24
theorem gf_32_25 : 25 < am_nf 32 := by decide +kernel
theorem gz_32_25 : am_fk 32 25 = 2 := rfl
theorem rl_32_25 : ∀ i, (32, i) ∈ am_keys → am_ref 32 25 i ∈ am_keys := fun i h => am_ref_cl _ h 25 gf_32_25 gz_32_25
theorem gf_32_26 : 26 < am_nf 32 := by decide +kernel
theorem gz_32_26 : am_fk 32 26 = 2 := rfl
theorem rl_32_26 : ∀ i, (32, i) ∈ am_keys → am_ref 32 26 i ∈ am_keys := fun i h => am_ref_cl _ h 26 gf_32_26 gz_32_26
theorem gf_32_27 : 27 < am_nf 32 := by decide +kernel
theorem gz_32_27 : am_fk 32 27 = 2 := rfl
theorem rl_32_27 : ∀ i, (32, i) ∈ am_keys → am_ref 32 27 i ∈ am_keys := fun i h => am_ref_cl _ h 27 gf_32_27 gz_32_27
theorem gf_32_28 : 28 < am_nf 32 := by decide +kernel
theorem gz_32_28 : am_fk 32 28 = 2 := rfl
theorem rl_32_28 : ∀ i, (32, i) ∈ am_keys → am_ref 32 28 i ∈ am_keys := fun i h => am_ref_cl _ h 28 gf_32_28 gz_32_28
theorem gf_32_29 : 29 < am_nf 32 := by decide +kernel
theorem gz_32_29 : am_fk 32 29 = 2 := rfl
theorem rl_32_29 : ∀ i, (32, i) ∈ am_keys → am_ref 32 29 i ∈ am_keys := fun i h => am_ref_cl _ h 29 gf_32_29 gz_32_29
theorem gf_32_30 : 30 < am_nf 32 := by decide +kernel
theorem gz_32_30 : am_fk 32 30 = 0 ∨ am_fk 32 30 = 1 := Or.inl rfl
theorem gf_32_31 : 31 < am_nf 32 := by decide +kernel
theorem gz_32_31 : am_fk 32 31 = 0 ∨ am_fk 32 31 = 1 := Or.inl rfl
theorem gf_32_32 : 32 < am_nf 32 := by decide +kernel
theorem gz_32_32 : am_fk 32 32 = 0 ∨ am_fk 32 32 = 1 := Or.inl rfl
theorem gf_32_33 : 33 < am_nf 32 := by decide +kernel
theorem gz_32_33 : am_fk 32 33 = 0 ∨ am_fk 32 33 = 1 := Or.inl rfl
theorem gf_32_34 : 34 < am_nf 32 := by decide +kernel
theorem gz_32_34 : am_fk 32 34 = 2 := rfl
theorem rl_32_34 : ∀ i, (32, i) ∈ am_keys → am_ref 32 34 i ∈ am_keys := fun i h => am_ref_cl _ h 34 gf_32_34 gz_32_34
theorem gf_32_35 : 35 < am_nf 32 := by decide +kernel
theorem gz_32_35 : am_fk 32 35 = 0 ∨ am_fk 32 35 = 1 := Or.inl rfl
theorem gf_32_36 : 36 < am_nf 32 := by decide +kernel
theorem gz_32_36 : am_fk 32 36 = 0 ∨ am_fk 32 36 = 1 := Or.inl rfl
theorem gf_32_37 : 37 < am_nf 32 := by decide +kernel
theorem gz_32_37 : am_fk 32 37 = 0 ∨ am_fk 32 37 = 1 := Or.inl rfl
theorem gf_32_38 : 38 < am_nf 32 := by decide +kernel
theorem gz_32_38 : am_fk 32 38 = 0 ∨ am_fk 32 38 = 1 := Or.inl rfl
theorem gf_32_39 : 39 < am_nf 32 := by decide +kernel
theorem gz_32_39 : am_fk 32 39 = 0 ∨ am_fk 32 39 = 1 := Or.inl rfl
theorem gf_32_40 : 40 < am_nf 32 := by decide +kernel
theorem gz_32_40 : am_fk 32 40 = 0 ∨ am_fk 32 40 = 1 := Or.inl rfl
theorem gf_32_41 : 41 < am_nf 32 := by decide +kernel
theorem gz_32_41 : am_fk 32 41 = 2 := rfl
theorem rl_32_41 : ∀ i, (32, i) ∈ am_keys → am_ref 32 41 i ∈ am_keys := fun i h => am_ref_cl _ h 41 gf_32_41 gz_32_41
theorem gf_32_42 : 42 < am_nf 32 := by decide +kernel
theorem gz_32_42 : am_fk 32 42 = 0 ∨ am_fk 32 42 = 1 := Or.inl rfl
theorem gf_32_43 : 43 < am_nf 32 := by decide +kernel
theorem gz_32_43 : am_fk 32 43 = 0 ∨ am_fk 32 43 = 1 := Or.inl rfl
theorem gf_32_44 : 44 < am_nf 32 := by decide +kernel
theorem gz_32_44 : am_fk 32 44 = 4 := rfl
theorem gf_32_45 : 45 < am_nf 32 := by decide +kernel
theorem gz_32_45 : am_fk 32 45 = 0 ∨ am_fk 32 45 = 1 := Or.inl rfl
theorem gf_32_46 : 46 < am_nf 32 := by decide +kernel
theorem gz_32_46 : am_fk 32 46 = 2 := rfl
theorem rl_32_46 : ∀ i, (32, i) ∈ am_keys → am_ref 32 46 i ∈ am_keys := fun i h => am_ref_cl _ h 46 gf_32_46 gz_32_46
theorem gf_32_47 : 47 < am_nf 32 := by decide +kernel
theorem gz_32_47 : am_fk 32 47 = 2 := rfl
theorem rl_32_47 : ∀ i, (32, i) ∈ am_keys → am_ref 32 47 i ∈ am_keys := fun i h => am_ref_cl _ h 47 gf_32_47 gz_32_47
theorem gf_32_48 : 48 < am_nf 32 := by decide +kernel
theorem gz_32_48 : am_fk 32 48 = 2 := rfl
theorem rl_32_48 : ∀ i, (32, i) ∈ am_keys → am_ref 32 48 i ∈ am_keys := fun i h => am_ref_cl _ h 48 gf_32_48 gz_32_48
theorem gf_32_49 : 49 < am_nf 32 := by decide +kernel
theorem gz_32_49 : am_fk 32 49 = 2 := rfl
theorem rl_32_49 : ∀ i, (32, i) ∈ am_keys → am_ref 32 49 i ∈ am_keys := fun i h => am_ref_cl _ h 49 gf_32_49 gz_32_49
theorem gf_32_50 : 50 < am_nf 32 := by decide +kernel
theorem gz_32_50 : am_fk 32 50 = 2 := rfl
theorem rl_32_50 : ∀ i, (32, i) ∈ am_keys → am_ref 32 50 i ∈ am_keys := fun i h => am_ref_cl _ h 50 gf_32_50 gz_32_50
theorem gf_32_51 : 51 < am_nf 32 := by decide +kernel
theorem gz_32_51 : am_fk 32 51 = 0 ∨ am_fk 32 51 = 1 := Or.inr rfl
theorem gf_32_52 : 52 < am_nf 32 := by decide +kernel
theorem gz_32_52 : am_fk 32 52 = 0 ∨ am_fk 32 52 = 1 := Or.inl rfl
theorem gf_32_53 : 53 < am_nf 32 := by decide +kernel
theorem gz_32_53 : am_fk 32 53 = 0 ∨ am_fk 32 53 = 1 := Or.inl rfl
theorem gf_32_54 : 54 < am_nf 32 := by decide +kernel
theorem gz_32_54 : am_fk 32 54 = 2 := rfl
theorem rl_32_54 : ∀ i, (32, i) ∈ am_keys → am_ref 32 54 i ∈ am_keys := fun i h => am_ref_cl _ h 54 gf_32_54 gz_32_54
theorem gf_32_55 : 55 < am_nf 32 := by decide +kernel
theorem gz_32_55 : am_fk 32 55 = 2 := rfl
theorem rl_32_55 : ∀ i, (32, i) ∈ am_keys → am_ref 32 55 i ∈ am_keys := fun i h => am_ref_cl _ h 55 gf_32_55 gz_32_55
theorem gf_32_56 : 56 < am_nf 32 := by decide +kernel
theorem gz_32_56 : am_fk 32 56 = 2 := rfl
theorem rl_32_56 : ∀ i, (32, i) ∈ am_keys → am_ref 32 56 i ∈ am_keys := fun i h => am_ref_cl _ h 56 gf_32_56 gz_32_56
theorem gf_32_57 : 57 < am_nf 32 := by decide +kernel
theorem gz_32_57 : am_fk 32 57 = 2 := rfl
theorem rl_32_57 : ∀ i, (32, i) ∈ am_keys → am_ref 32 57 i ∈ am_keys := fun i h => am_ref_cl _ h 57 gf_32_57 gz_32_57
theorem gf_32_58 : 58 < am_nf 32 := by decide +kernel
theorem gz_32_58 : am_fk 32 58 = 2 := rfl
theorem rl_32_58 : ∀ i, (32, i) ∈ am_keys → am_ref 32 58 i ∈ am_keys := fun i h => am_ref_cl _ h 58 gf_32_58 gz_32_58
theorem gf_32_59 : 59 < am_nf 32 := by decide +kernel
theorem gz_32_59 : am_fk 32 59 = 2 := rfl
theorem rl_32_59 : ∀ i, (32, i) ∈ am_keys → am_ref 32 59 i ∈ am_keys := fun i h => am_ref_cl _ h 59 gf_32_59 gz_32_59
theorem gf_32_60 : 60 < am_nf 32 := by decide +kernel
theorem gz_32_60 : am_fk 32 60 = 4 := rfl
theorem ak_8 : am_ak 8 = 1 := rfl
theorem ak_9 : am_ak 9 = 1 := rfl
theorem ak_10 : am_ak 10 = 1 := rfl
theorem ak_11 : am_ak 11 = 1 := rfl
theorem ak_12 : am_ak 12 = 1 := rfl
theorem ak_13 : am_ak 13 = 3 := rfl
theorem el_13 : ∀ i, (13, i) ∈ am_keys → ∀ q, q < am_len 13 → (4, am_el 13 i q) ∈ am_keys := fun i h q hq => am_el_cl _ h ak_13 q hq
theorem ak_14 : am_ak 14 = 3 := rfl
theorem el_14 : ∀ i, (14, i) ∈ am_keys → ∀ q, q < am_len 14 → (4, am_el 14 i q) ∈ am_keys := fun i h q hq => am_el_cl _ h ak_14 q hq
theorem ak_15 : am_ak 15 = 1 := rfl
theorem ak_16 : am_ak 16 = 3 := rfl
theorem el_16 : ∀ i, (16, i) ∈ am_keys → ∀ q, q < am_len 16 → (4, am_el 16 i q) ∈ am_keys := fun i h q hq => am_el_cl _ h ak_16 q hq
theorem ak_43 : am_ak 43 = 1 := rfl
theorem ak_44 : am_ak 44 = 1 := rfl
theorem ak_45 : am_ak 45 = 1 := rfl
theorem ak_48 : am_ak 48 = 1 := rfl
theorem ak_49 : am_ak 49 = 1 := rfl
theorem ak_50 : am_ak 50 = 1 := rfl
theorem ak_51 : am_ak 51 = 1 := rfl
theorem ak_52 : am_ak 52 = 1 := rfl
theorem ak_53 : am_ak 53 = 1 := rfl
theorem ak_54 : am_ak 54 = 1 := rfl
theorem ak_57 : am_ak 57 = 2 := rfl
theorem ak_62 : am_ak 62 = 1 := rfl
theorem ak_63 : am_ak 63 = 1 := rfl
theorem ak_64 : am_ak 64 = 1 := rfl
theorem ak_65 : am_ak 65 = 1 := rfl
theorem ak_66 : am_ak 66 = 1 := rfl
theorem ak_67 : am_ak 67 = 1 := rfl
theorem ak_68 : am_ak 68 = 1 := rfl
theorem ak_69 : am_ak 69 = 1 := rfl
theorem ak_74 : am_ak 74 = 1 := rfl
theorem ak_81 : am_ak 81 = 1 := rfl
theorem ak_86 : am_ak 86 = 1 := rfl
theorem ak_87 : am_ak 87 = 1 := rfl
theorem ak_88 : am_ak 88 = 1 := rfl
theorem ak_89 : am_ak 89 = 1 := rfl
theorem ak_90 : am_ak 90 = 1 := rfl
theorem ak_94 : am_ak 94 = 1 := rfl
theorem ak_95 : am_ak 95 = 1 := rfl
theorem ak_96 : am_ak 96 = 1 := rfl
theorem ak_97 : am_ak 97 = 1 := rfl
theorem ak_98 : am_ak 98 = 1 := rfl
theorem ak_99 : am_ak 99 = 1 := rfl
theorem cf_0 : am_cf 0 RX8 TX8 tyX8 := ⟨rfl, rfl, by decide +kernel, tyX8_ok, nmX8, by decide⟩
theorem rc_0 : am_rc 0 RX8 := Or.inl ⟨_, _, cf_0⟩
theorem cf_1 : am_cf 1 RX5 TX5 tyX5 := ⟨rfl, rfl, by decide +kernel, tyX5_ok, nmX5, by decide⟩
theorem rc_1 : am_rc 1 RX5 := Or.inl ⟨_, _, cf_1⟩
theorem cf_2 : am_cf 2 RX3 TX3 tyX3 := ⟨rfl, rfl, by decide +kernel, tyX3_ok, nmX3, by decide⟩
theorem rc_2 : am_rc 2 RX3 := Or.inl ⟨_, _, cf_2⟩
theorem cf_3 : am_cf 3 RX7 TX7 tyX7 := ⟨rfl, rfl, by decide +kernel, tyX7_ok, nmX7, by decide⟩
theorem rc_3 : am_rc 3 RX7 := Or.inl ⟨_, _, cf_3⟩
theorem cf_4 : am_cf 4 RX6 TX6 tyX6 := ⟨rfl, rfl, by decide +kernel, tyX6_ok, nmX6, by decide⟩
theorem rc_4 : am_rc 4 RX6 := Or.inl ⟨_, _, cf_4⟩
theorem cf_5 : am_cf 5 RX0 TX0 tyX0 := ⟨rfl, rfl, by decide +kernel, tyX0_ok, nmX0, by decide⟩
theorem rc_5 : am_rc 5 RX0 := Or.inl ⟨_, _, cf_5⟩
theorem cf_6 : am_cf 6 RX1 TX1 tyX1 := ⟨rfl, rfl, by decide +kernel, tyX1_ok, nmX1, by decide⟩
theorem rc_6 : am_rc 6 RX1 := Or.inl ⟨_, _, cf_6⟩
theorem cf_7 : am_cf 7 RX4 TX4 tyX4 := ⟨rfl, rfl, by decide +kernel, tyX4_ok, nmX4, by decide⟩
theorem rc_7 : am_rc 7 RX4 := Or.inl ⟨_, _, cf_7⟩
theorem cf_32 : am_cf 32 RX9 TX9 tyX9 := ⟨rfl, rfl, by decide +kernel, tyX9_ok, nmX9, by decide⟩
theorem rc_32 : am_rc 32 RX9 := Or.inl ⟨_, _, cf_32⟩
theorem rc_20 : am_rc 20 RX2 := Or.inr ⟨rfl, rfl⟩
theorem mw_max_s : Cond.static Lib.Math.max.name ∈ lw_tbl := am_w2 239 rfl
theorem mw_max_c : Cond.code Lib.Math.max.name Lib.Math.max.code 2 (some .int) ∈ lw_tbl := am_w3 0 rfl
theorem mw_min_s : Cond.static Lib.Math.min.name ∈ lw_tbl := am_w3 122 rfl
theorem mw_min_c : Cond.code Lib.Math.min.name Lib.Math.min.code 2 (some .int) ∈ lw_tbl := am_w3 123 rfl
theorem mw_i : Cond.initialized "java/lang/Math" ∈ lw_tbl := am_w1 12 rfl
theorem fl_RX8_10 : am_fl RX8 10 (TX8 0) := Or.inl (am_w1 225 rfl)
theorem fl_RX8_19 : am_fl RX8 19 (TX8 1) := Or.inl (am_w1 226 rfl)
theorem fl_RX8_26 : am_fl RX8 26 (TX8 2) := Or.inl (am_w1 227 rfl)
theorem fl_RX8_30 : am_fl RX8 30 (TX8 3) := Or.inl (am_w1 228 rfl)
theorem fl_RX8_33 : am_fl RX8 33 (TX8 4) := Or.inl (am_w1 229 rfl)
theorem fl_RX8_39 : am_fl RX8 39 (TX8 5) := Or.inl (am_w1 230 rfl)
theorem fl_RX8_46 : am_fl RX8 46 (TX8 6) := Or.inl (am_w1 231 rfl)
theorem fl_RX8_53 : am_fl RX8 53 (TX8 7) := Or.inl (am_w1 232 rfl)
theorem fl_RX8_65 : am_fl RX8 65 (TX5 2) := Or.inr ⟨"ServedAhead", am_w1 56 rfl⟩
theorem fl_RX8_76 : am_fl RX8 76 (TX5 1) := Or.inr ⟨"ServedAhead", am_w1 54 rfl⟩
theorem fl_RX8_83 : am_fl RX8 83 (TX8 9) := Or.inl (am_w1 234 rfl)
theorem fl_RX8_133 : am_fl RX8 133 (TX6 1) := Or.inr ⟨"ServedAhead", am_w1 109 rfl⟩
theorem fl_RX8_151 : am_fl RX8 151 (TX7 2) := Or.inr ⟨"ServedAhead", am_w1 144 rfl⟩
theorem fl_RX8_158 : am_fl RX8 158 (TX6 2) := Or.inr ⟨"ServedAhead", am_w1 113 rfl⟩
theorem fl_RX8_168 : am_fl RX8 168 (TX6 0) := Or.inr ⟨"ServedAhead", am_w1 105 rfl⟩
theorem fl_RX8_185 : am_fl RX8 185 (TX6 5) := Or.inr ⟨"ServedAhead", am_w1 126 rfl⟩
theorem fl_RX8_189 : am_fl RX8 189 (TX6 3) := Or.inr ⟨"ServedAhead", am_w1 119 rfl⟩
theorem fl_RX8_199 : am_fl RX8 199 (TX8 10) := Or.inl (am_w1 235 rfl)
theorem fl_RX8_206 : am_fl RX8 206 (TX1 4) := Or.inr ⟨"ServedAhead", am_w1 175 rfl⟩
theorem fl_RX8_209 : am_fl RX8 209 (TX1 5) := Or.inr ⟨"ServedAhead", am_w1 177 rfl⟩
theorem fl_RX8_220 : am_fl RX8 220 (TX6 4) := Or.inr ⟨"ServedAhead", am_w1 123 rfl⟩
theorem fl_RX8_223 : am_fl RX8 223 (TX4 3) := Or.inr ⟨"ServedAhead", am_w1 204 rfl⟩
theorem fl_RX8_228 : am_fl RX8 228 (TX4 2) := Or.inr ⟨"ServedAhead", am_w1 202 rfl⟩
theorem fl_RX8_233 : am_fl RX8 233 (TX8 11) := Or.inl (am_w1 236 rfl)
theorem fl_RX8_239 : am_fl RX8 239 (TX4 5) := Or.inr ⟨"ServedAhead", am_w1 207 rfl⟩
theorem fl_RX8_242 : am_fl RX8 242 (TX4 6) := Or.inr ⟨"ServedAhead", am_w1 209 rfl⟩
theorem fl_RX8_258 : am_fl RX8 258 (TX7 3) := Or.inr ⟨"ServedAhead", am_w1 146 rfl⟩
theorem fl_RX8_261 : am_fl RX8 261 (TX7 4) := Or.inr ⟨"ServedAhead", am_w1 148 rfl⟩
theorem fl_RX8_264 : am_fl RX8 264 (TX8 8) := Or.inl (am_w1 233 rfl)
theorem fl_RX8_267 : am_fl RX8 267 (TX3 3) := Or.inr ⟨"ServedAhead", am_w1 41 rfl⟩
theorem fl_RX8_270 : am_fl RX8 270 (TX7 1) := Or.inr ⟨"ServedAhead", am_w1 142 rfl⟩
theorem fl_RX8_327 : am_fl RX8 327 ("ServedAhead", "ACTS", "[I", false) := Or.inl (am_w3 127 rfl)
theorem fl_RX0_9 : am_fl RX0 9 (TX0 0) := Or.inl (am_w1 91 rfl)
theorem fl_RX0_15 : am_fl RX0 15 (TX0 1) := Or.inl (am_w1 92 rfl)
theorem fl_RX1_11 : am_fl RX1 11 (TX1 0) := Or.inl (am_w1 170 rfl)
theorem fl_RX1_22 : am_fl RX1 22 (TX6 2) := Or.inr ⟨"ServedAhead", am_w1 111 rfl⟩
theorem fl_RX1_26 : am_fl RX1 26 (TX1 2) := Or.inl (am_w1 172 rfl)
theorem fl_RX1_29 : am_fl RX1 29 (TX1 1) := Or.inl (am_w1 171 rfl)
theorem fl_RX1_32 : am_fl RX1 32 (TX6 4) := Or.inr ⟨"ServedAhead", am_w1 121 rfl⟩
theorem fl_RX1_46 : am_fl RX1 46 (TX1 4) := Or.inl (am_w1 174 rfl)
theorem fl_RX1_49 : am_fl RX1 49 (TX1 5) := Or.inl (am_w1 176 rfl)
theorem fl_RX1_52 : am_fl RX1 52 (TX1 3) := Or.inl (am_w1 173 rfl)
theorem fl_RX1_74 : am_fl RX1 74 (TX6 3) := Or.inr ⟨"ServedAhead", am_w1 116 rfl⟩
theorem fl_RX1_77 : am_fl RX1 77 (TX6 1) := Or.inr ⟨"ServedAhead", am_w1 108 rfl⟩
theorem fl_RX1_81 : am_fl RX1 81 ("ServedAhead$Kind", "givenAWeek", "I", false) := Or.inr ⟨"ServedAhead", am_w6 51 rfl⟩
theorem fl_RX1_86 : am_fl RX1 86 (TX6 0) := Or.inr ⟨"ServedAhead", am_w1 104 rfl⟩
theorem fl_RX1_90 : am_fl RX1 90 (TX0 1) := Or.inr ⟨"ServedAhead", am_w1 94 rfl⟩
theorem fl_RX2_3 : am_fl RX2 3 ("ServedAhead$Kind", "PERSON", "LServedAhead$Kind;", false) := Or.inl (am_w2 156 rfl)
theorem fl_RX2_13 : am_fl RX2 13 ("ServedAhead$Kind", "THIEF", "LServedAhead$Kind;", false) := Or.inl (am_w2 199 rfl)
theorem fl_RX2_16 : am_fl RX2 16 ("ServedAhead$Kind", "BARON", "LServedAhead$Kind;", false) := Or.inl (am_w2 197 rfl)
theorem fl_RX2_42 : am_fl RX2 42 ("ServedAhead$Kind", "needsLess", "I", false) := Or.inl (am_w6 47 rfl)
theorem fl_RX2_45 : am_fl RX2 45 ("ServedAhead$Kind", "getsMore", "I", false) := Or.inl (am_w6 49 rfl)
theorem fl_RX2_51 : am_fl RX2 51 ("ServedAhead$Kind", "owesTimes", "I", false) := Or.inl (am_w6 50 rfl)
theorem fl_RX2_54 : am_fl RX2 54 ("ServedAhead$Kind", "ALL", "[LServedAhead$Kind;", false) := Or.inl (am_w2 147 rfl)
theorem fl_RX3_9 : am_fl RX3 9 (TX3 0) := Or.inl (am_w1 33 rfl)
theorem fl_RX3_15 : am_fl RX3 15 (TX3 1) := Or.inl (am_w1 35 rfl)
theorem fl_RX3_18 : am_fl RX3 18 (TX3 2) := Or.inl (am_w1 37 rfl)
theorem fl_RX3_21 : am_fl RX3 21 (TX3 3) := Or.inl (am_w1 39 rfl)
theorem fl_RX4_9 : am_fl RX4 9 (TX4 0) := Or.inl (am_w1 199 rfl)
theorem fl_RX4_17 : am_fl RX4 17 (TX4 1) := Or.inl (am_w1 200 rfl)
theorem fl_RX4_22 : am_fl RX4 22 (TX4 2) := Or.inl (am_w1 201 rfl)
theorem fl_RX4_26 : am_fl RX4 26 (TX4 3) := Or.inl (am_w1 203 rfl)
theorem fl_RX4_30 : am_fl RX4 30 (TX4 4) := Or.inl (am_w1 205 rfl)
theorem fl_RX4_37 : am_fl RX4 37 (TX4 5) := Or.inl (am_w1 206 rfl)
theorem fl_RX4_40 : am_fl RX4 40 (TX4 6) := Or.inl (am_w1 208 rfl)
theorem fl_RX4_43 : am_fl RX4 43 (TX6 3) := Or.inr ⟨"ServedAhead", am_w1 117 rfl⟩
theorem fl_RX4_60 : am_fl RX4 60 (TX6 2) := Or.inr ⟨"ServedAhead", am_w1 112 rfl⟩
theorem fl_RX4_63 : am_fl RX4 63 ("ServedAhead", "ACTS", "[I", false) := Or.inr ⟨"ServedAhead", am_w3 190 rfl⟩
theorem fl_RX5_9 : am_fl RX5 9 (TX5 0) := Or.inl (am_w1 52 rfl)
theorem fl_RX5_18 : am_fl RX5 18 (TX5 1) := Or.inl (am_w1 53 rfl)
theorem fl_RX5_22 : am_fl RX5 22 (TX5 2) := Or.inl (am_w1 55 rfl)
theorem fl_RX5_26 : am_fl RX5 26 (TX5 3) := Or.inl (am_w1 57 rfl)
theorem fl_RX5_29 : am_fl RX5 29 (TX5 4) := Or.inl (am_w1 58 rfl)
theorem fl_RX5_65 : am_fl RX5 65 (TX3 0) := Or.inr ⟨"ServedAhead", am_w1 34 rfl⟩
theorem fl_RX5_68 : am_fl RX5 68 (TX3 2) := Or.inr ⟨"ServedAhead", am_w1 38 rfl⟩
theorem fl_RX5_71 : am_fl RX5 71 (TX3 1) := Or.inr ⟨"ServedAhead", am_w1 36 rfl⟩
theorem fl_RX5_74 : am_fl RX5 74 (TX3 3) := Or.inr ⟨"ServedAhead", am_w1 40 rfl⟩
theorem fl_RX6_12 : am_fl RX6 12 (TX6 0) := Or.inl (am_w1 103 rfl)
theorem fl_RX6_24 : am_fl RX6 24 (TX6 1) := Or.inl (am_w1 107 rfl)
theorem fl_RX6_27 : am_fl RX6 27 (TX6 2) := Or.inl (am_w1 110 rfl)
theorem fl_RX6_31 : am_fl RX6 31 (TX6 3) := Or.inl (am_w1 115 rfl)
theorem fl_RX6_34 : am_fl RX6 34 (TX6 4) := Or.inl (am_w1 120 rfl)
theorem fl_RX6_38 : am_fl RX6 38 (TX6 5) := Or.inl (am_w1 124 rfl)
theorem fl_RX6_41 : am_fl RX6 41 (TX0 1) := Or.inr ⟨"ServedAhead", am_w1 93 rfl⟩
theorem fl_RX6_48 : am_fl RX6 48 ("ServedAhead$Kind", "number", "I", false) := Or.inr ⟨"ServedAhead", am_w6 46 rfl⟩
theorem fl_RX6_106 : am_fl RX6 106 ("ServedAhead$Kind", "givenAWeek", "I", false) := Or.inr ⟨"ServedAhead", am_w6 48 rfl⟩
theorem fl_RX7_11 : am_fl RX7 11 (TX7 0) := Or.inl (am_w1 140 rfl)
theorem fl_RX7_22 : am_fl RX7 22 (TX7 1) := Or.inl (am_w1 141 rfl)
theorem fl_RX7_26 : am_fl RX7 26 (TX7 2) := Or.inl (am_w1 143 rfl)
theorem fl_RX7_37 : am_fl RX7 37 (TX6 5) := Or.inr ⟨"ServedAhead", am_w1 125 rfl⟩
theorem fl_RX7_56 : am_fl RX7 56 (TX6 3) := Or.inr ⟨"ServedAhead", am_w1 118 rfl⟩
theorem fl_RX7_59 : am_fl RX7 59 (TX6 4) := Or.inr ⟨"ServedAhead", am_w1 122 rfl⟩
theorem fl_RX7_72 : am_fl RX7 72 (TX6 2) := Or.inr ⟨"ServedAhead", am_w1 114 rfl⟩
theorem fl_RX7_75 : am_fl RX7 75 (TX6 0) := Or.inr ⟨"ServedAhead", am_w1 106 rfl⟩
theorem fl_RX7_79 : am_fl RX7 79 (TX0 1) := Or.inr ⟨"ServedAhead", am_w1 95 rfl⟩
theorem fl_RX7_82 : am_fl RX7 82 (TX7 3) := Or.inl (am_w1 145 rfl)
theorem fl_RX7_85 : am_fl RX7 85 (TX7 4) := Or.inl (am_w1 147 rfl)
theorem fl_RX9_7 : am_fl RX9 7 (TX9 3) := Or.inl (am_w4 48 rfl)
theorem fl_RX9_13 : am_fl RX9 13 (TX9 4) := Or.inl (am_w4 49 rfl)
theorem fl_RX9_16 : am_fl RX9 16 (TX9 5) := Or.inl (am_w4 50 rfl)
theorem fl_RX9_19 : am_fl RX9 19 (TX9 8) := Or.inl (am_w4 53 rfl)
theorem fl_RX9_22 : am_fl RX9 22 (TX9 9) := Or.inl (am_w4 54 rfl)
theorem fl_RX9_25 : am_fl RX9 25 (TX9 10) := Or.inl (am_w4 55 rfl)
theorem fl_RX9_28 : am_fl RX9 28 (TX9 11) := Or.inl (am_w4 56 rfl)
theorem fl_RX9_31 : am_fl RX9 31 (TX9 12) := Or.inl (am_w4 57 rfl)
theorem fl_RX9_34 : am_fl RX9 34 (TX9 13) := Or.inl (am_w4 58 rfl)
theorem fl_RX9_37 : am_fl RX9 37 (TX9 14) := Or.inl (am_w4 59 rfl)
theorem fl_RX9_40 : am_fl RX9 40 (TX9 17) := Or.inl (am_w4 62 rfl)
theorem fl_RX9_44 : am_fl RX9 44 (TX9 22) := Or.inl (am_w4 67 rfl)
theorem fl_RX9_47 : am_fl RX9 47 (TX9 23) := Or.inl (am_w4 68 rfl)
theorem fl_RX9_50 : am_fl RX9 50 (TX9 24) := Or.inl (am_w4 69 rfl)
theorem fl_RX9_53 : am_fl RX9 53 (TX9 25) := Or.inl (am_w4 70 rfl)
theorem fl_RX9_56 : am_fl RX9 56 (TX9 26) := Or.inl (am_w4 71 rfl)
theorem fl_RX9_59 : am_fl RX9 59 (TX9 27) := Or.inl (am_w4 72 rfl)
theorem fl_RX9_62 : am_fl RX9 62 (TX9 28) := Or.inl (am_w4 73 rfl)
theorem fl_RX9_65 : am_fl RX9 65 (TX9 29) := Or.inl (am_w4 74 rfl)
theorem fl_RX9_68 : am_fl RX9 68 (TX9 32) := Or.inl (am_w4 77 rfl)
theorem fl_RX9_72 : am_fl RX9 72 (TX9 34) := Or.inl (am_w4 79 rfl)
theorem fl_RX9_75 : am_fl RX9 75 (TX9 41) := Or.inl (am_w4 86 rfl)
theorem fl_RX9_78 : am_fl RX9 78 (TX9 46) := Or.inl (am_w4 91 rfl)
theorem fl_RX9_81 : am_fl RX9 81 (TX9 47) := Or.inl (am_w4 92 rfl)
theorem fl_RX9_84 : am_fl RX9 84 (TX9 48) := Or.inl (am_w4 93 rfl)
theorem fl_RX9_87 : am_fl RX9 87 (TX9 49) := Or.inl (am_w4 94 rfl)
theorem fl_RX9_90 : am_fl RX9 90 (TX9 50) := Or.inl (am_w4 95 rfl)
theorem fl_RX9_93 : am_fl RX9 93 (TX9 54) := Or.inl (am_w4 99 rfl)
theorem fl_RX9_96 : am_fl RX9 96 (TX9 55) := Or.inl (am_w4 100 rfl)
theorem fl_RX9_99 : am_fl RX9 99 (TX9 56) := Or.inl (am_w4 101 rfl)
theorem fl_RX9_102 : am_fl RX9 102 (TX9 57) := Or.inl (am_w4 102 rfl)
theorem fl_RX9_105 : am_fl RX9 105 (TX9 58) := Or.inl (am_w4 103 rfl)
theorem fl_RX9_108 : am_fl RX9 108 (TX9 59) := Or.inl (am_w4 104 rfl)
theorem fl_RX9_115 : am_fl RX9 115 (TX9 16) := Or.inl (am_w4 61 rfl)
theorem fl_RX9_118 : am_fl RX9 118 (TX9 20) := Or.inl (am_w4 65 rfl)
theorem fl_RX9_125 : am_fl RX9 125 (TX9 21) := Or.inl (am_w4 66 rfl)
theorem fl_RX9_136 : am_fl RX9 136 (TX9 18) := Or.inl (am_w4 63 rfl)
theorem fl_RX9_139 : am_fl RX9 139 (TX9 19) := Or.inl (am_w4 64 rfl)
theorem fl_RX9_146 : am_fl RX9 146 (TX9 2) := Or.inl (am_w4 47 rfl)
theorem fl_RX9_149 : am_fl RX9 149 (TX9 0) := Or.inl (am_w4 45 rfl)
theorem fl_RX9_152 : am_fl RX9 152 (TX9 1) := Or.inl (am_w4 46 rfl)
theorem fl_RX9_155 : am_fl RX9 155 (TX9 33) := Or.inl (am_w4 78 rfl)
theorem fl_RX9_168 : am_fl RX9 168 (TX9 7) := Or.inl (am_w4 52 rfl)
theorem fl_RX9_171 : am_fl RX9 171 (TX9 6) := Or.inl (am_w4 51 rfl)
theorem fl_RX9_228 : am_fl RX9 228 (TX9 30) := Or.inl (am_w4 75 rfl)
theorem fl_RX9_231 : am_fl RX9 231 (TX9 31) := Or.inl (am_w4 76 rfl)
theorem fl_RX9_252 : am_fl RX9 252 (TX9 15) := Or.inl (am_w4 60 rfl)
theorem fl_RX9_274 : am_fl RX9 274 (TX9 36) := Or.inl (am_w4 81 rfl)
theorem fl_RX9_277 : am_fl RX9 277 (TX9 37) := Or.inl (am_w4 82 rfl)
theorem fl_RX9_280 : am_fl RX9 280 (TX9 38) := Or.inl (am_w4 83 rfl)
theorem fl_RX9_283 : am_fl RX9 283 (TX9 39) := Or.inl (am_w4 84 rfl)
theorem fl_RX9_286 : am_fl RX9 286 (TX9 40) := Or.inl (am_w4 85 rfl)
theorem fl_RX9_289 : am_fl RX9 289 (TX9 42) := Or.inl (am_w4 87 rfl)
theorem fl_RX9_292 : am_fl RX9 292 (TX9 43) := Or.inl (am_w4 88 rfl)
theorem fl_RX9_298 : am_fl RX9 298 (TX9 35) := Or.inl (am_w4 80 rfl)
theorem fl_RX9_308 : am_fl RX9 308 (TX9 45) := Or.inl (am_w4 90 rfl)
theorem fl_RX9_313 : am_fl RX9 313 (TX9 44) := Or.inl (am_w4 89 rfl)
theorem fl_RX9_338 : am_fl RX9 338 (TX9 51) := Or.inl (am_w4 96 rfl)
theorem fl_RX9_341 : am_fl RX9 341 (TX9 52) := Or.inl (am_w4 97 rfl)
theorem fl_RX9_344 : am_fl RX9 344 (TX9 53) := Or.inl (am_w4 98 rfl)
theorem fl_RX9_358 : am_fl RX9 358 (TX9 60) := Or.inl (am_w4 105 rfl)
theorem ml_RX8_57 : am_ml RX8 57 yX5_hasRoom := Or.inl (am_w2 26 rfl)
theorem ml_RX8_61 : am_ml RX8 61 yX5_write := Or.inl (am_w2 30 rfl)
theorem ml_RX8_69 : am_ml RX8 69 yX5_firstFault := Or.inl (am_w2 42 rfl)
theorem ml_RX8_73 : am_ml RX8 73 yX5_isLaw := Or.inl (am_w2 85 rfl)
theorem ml_RX8_79 : am_ml RX8 79 yX3_copy := Or.inl (am_w2 90 rfl)
theorem ml_RX8_86 : am_ml RX8 86 yX4_close := Or.inl (am_w2 94 rfl)
theorem ml_RX8_89 : am_ml RX8 89 yX7_dropLapsed := Or.inl (am_w2 98 rfl)
theorem ml_RX8_92 : am_ml RX8 92 yX3_allTerms := Or.inl (am_w2 118 rfl)
theorem ml_RX8_95 : am_ml RX8 95 yX8_isDeed := Or.inl (am_w2 126 rfl)
theorem ml_RX8_99 : am_ml RX8 99 yX3_termOf := Or.inl (am_w2 127 rfl)
theorem ml_RX8_103 : am_ml RX8 103 yX3_worthOf := Or.inl (am_w2 132 rfl)
theorem ml_RX8_106 : am_ml RX8 106 yX3_sortsOf := Or.inl (am_w2 136 rfl)
theorem ml_RX8_109 : am_ml RX8 109 yX2_isNumber := Or.inl (am_w2 144 rfl)
theorem ml_RX8_114 : am_ml RX8 114 yX7_hasRoom := Or.inl (am_w2 149 rfl)
theorem ml_RX8_115 : am_ml RX8 115 yX2_numbered := Or.inl (am_w2 153 rfl)
theorem ml_RX8_119 : am_ml RX8 119 yX7_welcome := Or.inl (am_w2 157 rfl)
theorem ml_RX8_123 : am_ml RX8 123 yX7_isKnown := Or.inl (am_w2 169 rfl)
theorem ml_RX8_126 : am_ml RX8 126 yX7_one := Or.inl (am_w2 173 rfl)
theorem ml_RX8_130 : am_ml RX8 130 yX6_told := Or.inl (am_w2 174 rfl)
theorem ml_RX8_137 : am_ml RX8 137 yX2_isA := Or.inl (am_w2 193 rfl)
theorem ml_RX8_141 : am_ml RX8 141 yX7_isHere := Or.inl (am_w2 205 rfl)
theorem ml_RX8_144 : am_ml RX8 144 yX8_isAct := Or.inl (am_w2 210 rfl)
theorem ml_RX8_147 : am_ml RX8 147 yX6_isFreeTo := Or.inl (am_w2 222 rfl)
theorem ml_RX8_154 : am_ml RX8 154 yX6_does := Or.inl (am_w3 5 rfl)
theorem ml_RX8_161 : am_ml RX8 161 yX7_passWeek := Or.inl (am_w3 44 rfl)
theorem ml_RX8_164 : am_ml RX8 164 yX8_arePair := Or.inl (am_w3 57 rfl)
theorem ml_RX8_172 : am_ml RX8 172 yX0_oldestWeek := Or.inl (am_w3 61 rfl)
theorem ml_RX8_177 : am_ml RX8 177 yX0_hasRoom := Or.inl (am_w3 62 rfl)
theorem ml_RX8_178 : am_ml RX8 178 yX0_dropOldest := Or.inl (am_w3 66 rfl)
theorem ml_RX8_182 : am_ml RX8 182 yX0_give := Or.inl (am_w3 67 rfl)
theorem ml_RX8_192 : am_ml RX8 192 yX0_moveTo := Or.inl (am_w3 72 rfl)
theorem ml_RX8_196 : am_ml RX8 196 yX7_forgive := Or.inl (am_w3 82 rfl)
theorem ml_RX8_202 : am_ml RX8 202 yX1_start := Or.inl (am_w3 94 rfl)
theorem ml_RX8_212 : am_ml RX8 212 yX8_weeksOfServing := Or.inl (am_w3 135 rfl)
theorem ml_RX8_216 : am_ml RX8 216 yX7_someoneCovered := Or.inl (am_w3 146 rfl)
theorem ml_RX8_224 : am_ml RX8 224 yX4_open := Or.inl (am_w3 156 rfl)
theorem ml_RX8_231 : am_ml RX8 231 yX4_hasRoom := Or.inl (am_w3 165 rfl)
theorem ml_RX8_232 : am_ml RX8 232 yX4_write := Or.inl (am_w3 169 rfl)
theorem ml_RX8_236 : am_ml RX8 236 yX4_walk := Or.inl (am_w3 177 rfl)
theorem ml_RX8_245 : am_ml RX8 245 yX7_copy := Or.inl (am_w3 209 rfl)
theorem ml_RX8_248 : am_ml RX8 248 yX7_live := Or.inl (am_w3 214 rfl)
theorem ml_RX8_252 : am_ml RX8 252 yX7_allGot := Or.inl (am_w3 234 rfl)
theorem ml_RX8_255 : am_ml RX8 255 yX7_allOwed := Or.inl (am_w3 238 rfl)
theorem ml_RX8_271 : am_ml RX8 271 yX7_allGone := Or.inl (am_w4 11 rfl)
theorem ml_RX8_274 : am_ml RX8 274 yX7_allCredits := Or.inl (am_w4 15 rfl)
theorem ml_RX8_279 : am_ml RX8 279 yX8_withDeed := Or.inl (am_w4 24 rfl)
theorem ml_RX8_283 : am_ml RX8 283 yX8_withPerson := Or.inl (am_w4 31 rfl)
theorem ml_RX8_288 : am_ml RX8 288 yX5_at := Or.inl (am_w4 37 rfl)
theorem ml_RX8_291 : am_ml RX8 291 yX8_count := Or.inl (am_w4 38 rfl)
theorem ml_RX8_294 : am_ml RX8 294 yX8_deed := Or.inl (am_w4 29 rfl)
theorem ml_RX8_298 : am_ml RX8 298 yX8_kept := Or.inl (am_w4 30 rfl)
theorem ml_RX8_301 : am_ml RX8 301 yX8_about := Or.inl (am_w4 35 rfl)
theorem ml_RX8_304 : am_ml RX8 304 yX8_soon := Or.inl (am_w4 36 rfl)
theorem ml_RX8_307 : am_ml RX8 307 yX6_copy := Or.inl (am_w3 139 rfl)
theorem ml_RX8_310 : am_ml RX8 310 yX6_enter := Or.inl (am_w3 140 rfl)
theorem ml_RX8_314 : am_ml RX8 314 yX6_isCovered := Or.inl (am_w3 141 rfl)
theorem ml_RX8_318 : am_ml RX8 318 yX8_isServing := Or.inl (am_w2 213 rfl)
theorem ml_RX8_321 : am_ml RX8 321 yX8_isCoveredDeed := Or.inl (am_w2 216 rfl)
theorem ml_RX8_324 : am_ml RX8 324 yX8_isBareDeed := Or.inl (am_w2 219 rfl)
theorem ml_RX0_19 : am_ml RX0 19 yX0_isOf := Or.inl (am_w2 182 rfl)
theorem ml_RX0_23 : am_ml RX0 23 yX0_hasRoom := Or.inl (am_w3 76 rfl)
theorem ml_RX0_27 : am_ml RX0 27 yX0_give := Or.inl (am_w3 77 rfl)
theorem ml_RX1_18 : am_ml RX1 18 yX6_copy := Or.inl (am_w3 98 rfl)
theorem ml_RX1_42 : am_ml RX1 42 yX6_enter := Or.inl (am_w3 107 rfl)
theorem ml_RX1_55 : am_ml RX1 55 yX1_tryFrom := Or.inl (am_w3 108 rfl)
theorem ml_RX1_58 : am_ml RX1 58 yX1_mostStill := Or.inl (am_w3 112 rfl)
theorem ml_RX1_62 : am_ml RX1 62 yX8_actAt := Or.inr ⟨"ServedAhead", am_w3 124 rfl⟩
theorem ml_RX1_66 : am_ml RX1 66 yX6_isFreeTo := Or.inl (am_w3 129 rfl)
theorem ml_RX1_70 : am_ml RX1 70 yX6_does := Or.inl (am_w3 130 rfl)
theorem ml_RX1_95 : am_ml RX1 95 yX3_worthOf := Or.inl (am_w3 115 rfl)
theorem ml_RX1_100 : am_ml RX1 100 yX2_gets := Or.inl (am_w3 116 rfl)
theorem ml_RX1_103 : am_ml RX1 103 yX3_termOf := Or.inl (am_w3 117 rfl)
theorem ml_RX1_106 : am_ml RX1 106 yX2_needs := Or.inl (am_w3 118 rfl)
theorem ml_RX1_109 : am_ml RX1 109 yX3_sortsOf := Or.inl (am_w3 119 rfl)
theorem ml_RX1_112 : am_ml RX1 112 yX0_howMany := Or.inl (am_w3 120 rfl)
theorem ml_RX3_25 : am_ml RX3 25 yX8_isDeed := Or.inr ⟨"ServedAhead", am_w2 131 rfl⟩
theorem ml_RX4_33 : am_ml RX4 33 yX6_copy := Or.inl (am_w3 160 rfl)
theorem ml_RX4_46 : am_ml RX4 46 yX4_reckon := Or.inl (am_w3 181 rfl)
theorem ml_RX4_50 : am_ml RX4 50 yX4_walkFrom := Or.inl (am_w3 186 rfl)
theorem ml_RX4_66 : am_ml RX4 66 yX8_actAt := Or.inr ⟨"ServedAhead", am_w3 191 rfl⟩
theorem ml_RX4_70 : am_ml RX4 70 yX6_getsBy := Or.inl (am_w3 192 rfl)
theorem ml_RX4_74 : am_ml RX4 74 yX6_isFreeTo := Or.inl (am_w3 193 rfl)
theorem ml_RX4_78 : am_ml RX4 78 yX6_owesAfter := Or.inl (am_w3 194 rfl)
theorem ml_RX4_81 : am_ml RX4 81 yX4_goOn := Or.inl (am_w3 195 rfl)
theorem ml_RX4_85 : am_ml RX4 85 yX6_does := Or.inl (am_w3 199 rfl)
theorem ml_RX4_89 : am_ml RX4 89 yX6_enter := Or.inl (am_w3 200 rfl)
theorem ml_RX5_32 : am_ml RX5 32 yX5_at := Or.inl (am_w2 46 rfl)
theorem ml_RX5_36 : am_ml RX5 36 yX5_takes := Or.inl (am_w2 50 rfl)
theorem ml_RX5_40 : am_ml RX5 40 yX5_firstFault := Or.inl (am_w2 89 rfl)
theorem ml_RX5_44 : am_ml RX5 44 yX5_takesTerm := Or.inl (am_w2 54 rfl)
theorem ml_RX5_47 : am_ml RX5 47 yX5_takesWorth := Or.inl (am_w2 61 rfl)
theorem ml_RX5_50 : am_ml RX5 50 yX5_takesColon := Or.inl (am_w2 65 rfl)
theorem ml_RX5_53 : am_ml RX5 53 yX5_takesSort := Or.inl (am_w2 69 rfl)
theorem ml_RX5_56 : am_ml RX5 56 yX5_takesEndOfDeed := Or.inl (am_w2 73 rfl)
theorem ml_RX5_59 : am_ml RX5 59 yX5_takesLapse := Or.inl (am_w2 77 rfl)
theorem ml_RX5_62 : am_ml RX5 62 yX8_isDeed := Or.inr ⟨"ServedAhead", am_w2 58 rfl⟩
theorem ml_RX6_44 : am_ml RX6 44 yX0_copy := Or.inl (am_w3 102 rfl)
theorem ml_RX6_51 : am_ml RX6 51 yX0_howMany := Or.inl (am_w2 178 rfl)
theorem ml_RX6_55 : am_ml RX6 55 yX0_oldestWeek := Or.inl (am_w2 185 rfl)
theorem ml_RX6_59 : am_ml RX6 59 yX6_dropLapsed := Or.inl (am_w3 52 rfl)
theorem ml_RX6_63 : am_ml RX6 63 yX3_firstThatCounts := Or.inl (am_w2 110 rfl)
theorem ml_RX6_68 : am_ml RX6 68 yX0_dropAheadOf := Or.inl (am_w2 114 rfl)
theorem ml_RX6_72 : am_ml RX6 72 yX3_sortsOf := Or.inl (am_w2 233 rfl)
theorem ml_RX6_75 : am_ml RX6 75 yX2_needs := Or.inl (am_w2 234 rfl)
theorem ml_RX6_78 : am_ml RX6 78 yX8_isServing := Or.inr ⟨"ServedAhead", am_w2 226 rfl⟩
theorem ml_RX6_82 : am_ml RX6 82 yX8_isCoveredDeed := Or.inr ⟨"ServedAhead", am_w2 227 rfl⟩
theorem ml_RX6_85 : am_ml RX6 85 yX3_termOf := Or.inl (am_w2 228 rfl)
theorem ml_RX6_88 : am_ml RX6 88 yX6_isCovered := Or.inl (am_w2 229 rfl)
theorem ml_RX6_92 : am_ml RX6 92 yX6_earns := Or.inl (am_w3 9 rfl)
theorem ml_RX6_96 : am_ml RX6 96 yX0_dropOldest := Or.inl (am_w3 17 rfl)
theorem ml_RX6_99 : am_ml RX6 99 yX6_getsBy := Or.inl (am_w3 21 rfl)
theorem ml_RX6_103 : am_ml RX6 103 yX6_owesAfter := Or.inl (am_w3 31 rfl)
theorem ml_RX6_109 : am_ml RX6 109 yX0_give := Or.inl (am_w3 13 rfl)
theorem ml_RX6_112 : am_ml RX6 112 yX8_isBareDeed := Or.inr ⟨"ServedAhead", am_w3 25 rfl⟩
theorem ml_RX6_115 : am_ml RX6 115 yX3_worthOf := Or.inl (am_w3 26 rfl)
theorem ml_RX6_118 : am_ml RX6 118 yX2_gets := Or.inl (am_w3 27 rfl)
theorem ml_RX6_126 : am_ml RX6 126 yX2_owesFor := Or.inl (am_w3 36 rfl)
theorem ml_RX7_18 : am_ml RX7 18 yX6_copy := Or.inl (am_w3 213 rfl)
theorem ml_RX7_29 : am_ml RX7 29 yX7_isKnown := Or.inl (am_w2 209 rfl)
theorem ml_RX7_33 : am_ml RX7 33 yX7_one := Or.inl (am_w2 102 rfl)
theorem ml_RX7_41 : am_ml RX7 41 yX6_begin := Or.inl (am_w2 161 rfl)
theorem ml_RX7_45 : am_ml RX7 45 yX6_enter := Or.inl (am_w3 48 rfl)
theorem ml_RX7_49 : am_ml RX7 49 yX6_dropLapsed := Or.inl (am_w2 106 rfl)
theorem ml_RX7_52 : am_ml RX7 52 yX7_allOwed := Or.inl (am_w3 86 rfl)
theorem ml_RX7_62 : am_ml RX7 62 yX3_firstThatCounts := Or.inl (am_w3 150 rfl)
theorem ml_RX7_68 : am_ml RX7 68 yX6_isCovered := Or.inl (am_w3 151 rfl)
theorem ml_RX7_88 : am_ml RX7 88 yX7_actByDraw := Or.inl (am_w3 218 rfl)
theorem ml_RX7_92 : am_ml RX7 92 yX7_passWeek := Or.inl (am_w3 233 rfl)
theorem ml_RX7_96 : am_ml RX7 96 yX7_drawn := Or.inl (am_w3 222 rfl)
theorem ml_RX7_99 : am_ml RX7 99 yX8_actAt := Or.inr ⟨"ServedAhead", am_w3 229 rfl⟩
theorem ml_RX7_102 : am_ml RX7 102 yX6_isFreeTo := Or.inl (am_w3 230 rfl)
theorem ml_RX7_106 : am_ml RX7 106 yX6_does := Or.inl (am_w3 231 rfl)
theorem ml_RX7_110 : am_ml RX7 110 yX8_isServing := Or.inr ⟨"ServedAhead", am_w3 232 rfl⟩
theorem ml_RL_13 : am_ml RL 13 yX8_letter := Or.inl (am_w2 22 rfl)
theorem ml_RL_17 : am_ml RL 17 yX9_letter := Or.inl (am_w4 230 rfl)
theorem ml_RL_18 : am_ml RL 18 yX8_blank := Or.inl (am_w2 34 rfl)
theorem ml_RL_22 : am_ml RL 22 yX9_blank := Or.inl (am_w4 237 rfl)
theorem ml_RL_23 : am_ml RL 23 yX8_fault := Or.inl (am_w2 38 rfl)
theorem ml_RL_26 : am_ml RL 26 yX9_fault := Or.inl (am_w5 1 rfl)
theorem ml_RL_27 : am_ml RL 27 yX8_law := Or.inl (am_w2 81 rfl)
theorem ml_RL_30 : am_ml RL 30 yX9_law := Or.inl (am_w5 20 rfl)
theorem ml_RL_31 : am_ml RL 31 yX8_deed := Or.inl (am_w2 122 rfl)
theorem ml_RL_35 : am_ml RL 35 yX9_deed := Or.inl (am_w5 32 rfl)
theorem ml_RL_36 : am_ml RL 36 yX8_person := Or.inl (am_w2 140 rfl)
theorem ml_RL_39 : am_ml RL 39 yX9_person := Or.inl (am_w5 43 rfl)
theorem ml_RL_40 : am_ml RL 40 yX8_about := Or.inl (am_w2 165 rfl)
theorem ml_RL_43 : am_ml RL 43 yX9_about := Or.inl (am_w5 47 rfl)
theorem ml_RL_44 : am_ml RL 44 yX8_as := Or.inl (am_w2 189 rfl)
theorem ml_RL_47 : am_ml RL 47 yX9_as := Or.inl (am_w5 63 rfl)
theorem ml_RL_48 : am_ml RL 48 yX8_may := Or.inl (am_w2 201 rfl)
theorem ml_RL_51 : am_ml RL 51 yX9_may := Or.inl (am_w5 67 rfl)
theorem ml_RL_52 : am_ml RL 52 yX8_act := Or.inl (am_w3 1 rfl)
theorem ml_RL_55 : am_ml RL 55 yX9_act := Or.inl (am_w5 93 rfl)
theorem ml_RL_56 : am_ml RL 56 yX8_week := Or.inl (am_w3 40 rfl)
theorem ml_RL_59 : am_ml RL 59 yX9_week := Or.inl (am_w5 117 rfl)
theorem ml_RL_60 : am_ml RL 60 yX8_sell := Or.inl (am_w3 53 rfl)
theorem ml_RL_64 : am_ml RL 64 yX9_sell := Or.inl (am_w5 125 rfl)
theorem ml_RL_65 : am_ml RL 65 yX8_leave := Or.inl (am_w3 68 rfl)
theorem ml_RL_68 : am_ml RL 68 yX9_leave := Or.inl (am_w5 129 rfl)
theorem ml_RL_69 : am_ml RL 69 yX8_amnesty := Or.inl (am_w3 78 rfl)
theorem ml_RL_72 : am_ml RL 72 yX9_amnesty := Or.inl (am_w5 133 rfl)
theorem ml_RL_73 : am_ml RL 73 yX8_gain := Or.inl (am_w3 90 rfl)
theorem ml_RL_76 : am_ml RL 76 yX9_gain := Or.inl (am_w5 141 rfl)
theorem ml_RL_77 : am_ml RL 77 yX8_soon := Or.inl (am_w3 131 rfl)
theorem ml_RL_80 : am_ml RL 80 yX9_soon := Or.inl (am_w5 168 rfl)
theorem ml_RL_81 : am_ml RL 81 yX8_kept := Or.inl (am_w3 142 rfl)
theorem ml_RL_84 : am_ml RL 84 yX9_kept := Or.inl (am_w5 184 rfl)
theorem ml_RL_85 : am_ml RL 85 yX8_book := Or.inl (am_w3 152 rfl)
theorem ml_RL_88 : am_ml RL 88 yX9_book := Or.inl (am_w5 196 rfl)
theorem ml_RL_89 : am_ml RL 89 yX8_next := Or.inl (am_w3 161 rfl)
theorem ml_RL_92 : am_ml RL 92 yX9_next := Or.inl (am_w5 200 rfl)
theorem ml_RL_93 : am_ml RL 93 yX8_ways := Or.inl (am_w3 173 rfl)
theorem ml_RL_96 : am_ml RL 96 yX9_ways := Or.inl (am_w5 204 rfl)
theorem ml_RL_97 : am_ml RL 97 yX8_owed := Or.inl (am_w3 201 rfl)
theorem ml_RL_100 : am_ml RL 100 yX9_owed := Or.inl (am_w5 220 rfl)
theorem ml_RL_101 : am_ml RL 101 yX8_years := Or.inl (am_w3 205 rfl)
theorem ml_RL_104 : am_ml RL 104 yX9_years := Or.inl (am_w5 224 rfl)
theorem ml_RL_105 : am_ml RL 105 yX8_image := Or.inl (am_w3 239 rfl)
theorem ml_RL_108 : am_ml RL 108 yX9_image := Or.inl (am_w6 12 rfl)
theorem ml_RL_109 : am_ml RL 109 yX8_restore := Or.inl (am_w4 3 rfl)
theorem ml_RL_112 : am_ml RL 112 yX9_restore := Or.inl (am_w6 16 rfl)
theorem ml_RL_113 : am_ml RL 113 yX8_count := Or.inl (am_w4 7 rfl)
theorem ml_RL_116 : am_ml RL 116 yX9_count := Or.inl (am_w6 20 rfl)
theorem ml_RL_117 : am_ml RL 117 yX8_digest := Or.inl (am_w4 19 rfl)
theorem ml_RL_121 : am_ml RL 121 yX9_digest := Or.inl (am_w6 36 rfl)
theorem ml_RX9_111 : am_ml RX9 111 yX9_within := Or.inl (am_w4 234 rfl)
theorem ml_RX9_121 : am_ml RX9 121 yX9_sortState := Or.inl (am_w5 13 rfl)
theorem ml_RX9_128 : am_ml RX9 128 yX9_has := Or.inl (am_w5 17 rfl)
theorem ml_RX9_132 : am_ml RX9 132 yX9_nextState := Or.inl (am_w5 9 rfl)
theorem ml_RX9_143 : am_ml RX9 143 yX9_readLaw := Or.inl (am_w5 5 rfl)
theorem ml_RX9_158 : am_ml RX9 158 yX9_lapseAll := Or.inl (am_w5 24 rfl)
theorem ml_RX9_161 : am_ml RX9 161 yX9_isDeed := Or.inl (am_w5 36 rfl)
theorem ml_RX9_165 : am_ml RX9 165 yX9_deedNow := Or.inl (am_w5 39 rfl)
theorem ml_RX9_174 : am_ml RX9 174 yX9_lapseOf := Or.inl (am_w5 28 rfl)
theorem ml_RX9_178 : am_ml RX9 178 yX9_isThere := Or.inl (am_w5 51 rfl)
theorem ml_RX9_181 : am_ml RX9 181 yX9_countOf := Or.inl (am_w5 59 rfl)
theorem ml_RX9_184 : am_ml RX9 184 yX9_personNow := Or.inl (am_w5 55 rfl)
theorem ml_RX9_187 : am_ml RX9 187 yX9_needs := Or.inl (am_w5 90 rfl)
theorem ml_RX9_190 : am_ml RX9 190 yX9_isCovered := Or.inl (am_w5 86 rfl)
theorem ml_RX9_193 : am_ml RX9 193 yX9_gets := Or.inl (am_w5 101 rfl)
theorem ml_RX9_196 : am_ml RX9 196 yX9_take := Or.inl (am_w5 105 rfl)
theorem ml_RX9_199 : am_ml RX9 199 yX9_serve := Or.inl (am_w5 109 rfl)
theorem ml_RX9_203 : am_ml RX9 203 yX9_give := Or.inl (am_w5 113 rfl)
theorem ml_RX9_206 : am_ml RX9 206 yX9_mayDo := Or.inl (am_w5 82 rfl)
theorem ml_RX9_209 : am_ml RX9 209 yX9_isPerson := Or.inl (am_w5 71 rfl)
theorem ml_RX9_212 : am_ml RX9 212 yX9_isAct := Or.inl (am_w5 75 rfl)
theorem ml_RX9_215 : am_ml RX9 215 yX9_mayNow := Or.inl (am_w5 78 rfl)
theorem ml_RX9_218 : am_ml RX9 218 yX9_doAct := Or.inl (am_w5 97 rfl)
theorem ml_RX9_221 : am_ml RX9 221 yX9_goWeek := Or.inl (am_w5 121 rfl)
theorem ml_RX9_224 : am_ml RX9 224 yX9_owesAll := Or.inl (am_w5 137 rfl)
theorem ml_RX9_234 : am_ml RX9 234 yX9_copy := Or.inl (am_w5 149 rfl)
theorem ml_RX9_237 : am_ml RX9 237 yX9_keepRow := Or.inl (am_w5 153 rfl)
theorem ml_RX9_241 : am_ml RX9 241 yX9_actBy := Or.inl (am_w5 157 rfl)
theorem ml_RX9_245 : am_ml RX9 245 yX9_goRow := Or.inl (am_w5 160 rfl)
theorem ml_RX9_249 : am_ml RX9 249 yX9_backRow := Or.inl (am_w5 164 rfl)
theorem ml_RX9_255 : am_ml RX9 255 yX9_layGain := Or.inl (am_w5 145 rfl)
theorem ml_RX9_258 : am_ml RX9 258 yX9_soonBy := Or.inl (am_w5 180 rfl)
theorem ml_RX9_261 : am_ml RX9 261 yX9_soonNow := Or.inl (am_w5 176 rfl)
theorem ml_RX9_264 : am_ml RX9 264 yX9_soonTold := Or.inl (am_w5 172 rfl)
theorem ml_RX9_267 : am_ml RX9 267 yX9_canAny := Or.inl (am_w5 192 rfl)
theorem ml_RX9_270 : am_ml RX9 270 yX9_keptNow := Or.inl (am_w5 188 rfl)
theorem ml_RX9_295 : am_ml RX9 295 yX9_tryRow := Or.inl (am_w5 216 rfl)
theorem ml_RX9_301 : am_ml RX9 301 yX9_mayBook := Or.inl (am_w5 208 rfl)
theorem ml_RX9_305 : am_ml RX9 305 yX9_layWays := Or.inl (am_w5 212 rfl)
theorem ml_RX9_323 : am_ml RX9 323 yX9_save := Or.inl (am_w5 232 rfl)
theorem ml_RX9_326 : am_ml RX9 326 yX9_draw := Or.inl (am_w5 236 rfl)
theorem ml_RX9_329 : am_ml RX9 329 yX9_gotAll := Or.inl (am_w6 4 rfl)
theorem ml_RX9_332 : am_ml RX9 332 yX9_back := Or.inl (am_w6 8 rfl)
theorem ml_RX9_335 : am_ml RX9 335 yX9_yearsNow := Or.inl (am_w5 228 rfl)
theorem ml_RX9_347 : am_ml RX9 347 yX9_goneMany := Or.inl (am_w6 28 rfl)
theorem ml_RX9_350 : am_ml RX9 350 yX9_creditsAll := Or.inl (am_w6 32 rfl)
theorem ml_RX9_353 : am_ml RX9 353 yX9_howMany := Or.inl (am_w6 24 rfl)
theorem ml_RX9_363 : am_ml RX9 363 yX9_mix := Or.inl (am_w6 41 rfl)
theorem mo_X0_copy : am_mo yX0_copy cX0_copy 3 none 1 := ⟨am_w3 105 rfl, am_w1 6 rfl, by decide, by decide, by decide +kernel, by decide⟩
theorem ms_X0_copy : Cond.instanceMethod yX0_copy ∈ lw_tbl := am_w3 103 rfl
theorem mx_X0_copy : Cond.selects (yX0_copy).cls yX0_copy yX0_copy ∈ lw_tbl := am_w3 104 rfl
theorem mo_X0_hasRoom : am_mo yX0_hasRoom cX0_hasRoom 1 (some .boolean) 0 := ⟨am_w3 65 rfl, am_w1 6 rfl, by decide, by decide, by decide +kernel, by decide⟩
theorem ms_X0_hasRoom : Cond.instanceMethod yX0_hasRoom ∈ lw_tbl := am_w3 63 rfl
theorem mx_X0_hasRoom : Cond.selects (yX0_hasRoom).cls yX0_hasRoom yX0_hasRoom ∈ lw_tbl := am_w3 64 rfl
theorem mo_X0_give : am_mo yX0_give cX0_give 5 none 2 := ⟨am_w3 16 rfl, am_w1 6 rfl, by decide, by decide, by decide +kernel, by decide⟩
theorem ms_X0_give : Cond.instanceMethod yX0_give ∈ lw_tbl := am_w3 14 rfl
theorem mx_X0_give : Cond.selects (yX0_give).cls yX0_give yX0_give ∈ lw_tbl := am_w3 15 rfl
theorem mo_X0_howMany : am_mo yX0_howMany cX0_howMany 5 (some .int) 2 := ⟨am_w2 181 rfl, am_w1 6 rfl, by decide, by decide, by decide +kernel, by decide⟩
theorem ms_X0_howMany : Cond.instanceMethod yX0_howMany ∈ lw_tbl := am_w2 179 rfl
theorem mx_X0_howMany : Cond.selects (yX0_howMany).cls yX0_howMany yX0_howMany ∈ lw_tbl := am_w2 180 rfl
theorem mo_X0_oldestWeek : am_mo yX0_oldestWeek cX0_oldestWeek 3 (some .int) 1 := ⟨am_w2 188 rfl, am_w1 6 rfl, by decide, by decide, by decide +kernel, by decide⟩
theorem ms_X0_oldestWeek : Cond.instanceMethod yX0_oldestWeek ∈ lw_tbl := am_w2 186 rfl
theorem mx_X0_oldestWeek : Cond.selects (yX0_oldestWeek).cls yX0_oldestWeek yX0_oldestWeek ∈ lw_tbl := am_w2 187 rfl
theorem mo_X0_dropOldest : am_mo yX0_dropOldest cX0_dropOldest 6 none 2 := ⟨am_w3 20 rfl, am_w1 6 rfl, by decide, by decide, by decide +kernel, by decide⟩
theorem ms_X0_dropOldest : Cond.instanceMethod yX0_dropOldest ∈ lw_tbl := am_w3 18 rfl
theorem mx_X0_dropOldest : Cond.selects (yX0_dropOldest).cls yX0_dropOldest yX0_dropOldest ∈ lw_tbl := am_w3 19 rfl
theorem mo_X0_dropAheadOf : am_mo yX0_dropAheadOf cX0_dropAheadOf 4 none 1 := ⟨am_w2 117 rfl, am_w1 6 rfl, by decide, by decide, by decide +kernel, by decide⟩
theorem ms_X0_dropAheadOf : Cond.instanceMethod yX0_dropAheadOf ∈ lw_tbl := am_w2 115 rfl
theorem mx_X0_dropAheadOf : Cond.selects (yX0_dropAheadOf).cls yX0_dropAheadOf yX0_dropAheadOf ∈ lw_tbl := am_w2 116 rfl
theorem mo_X0_moveTo : am_mo yX0_moveTo cX0_moveTo 4 (some .int) 1 := ⟨am_w3 75 rfl, am_w1 6 rfl, by decide, by decide, by decide +kernel, by decide⟩
theorem ms_X0_moveTo : Cond.instanceMethod yX0_moveTo ∈ lw_tbl := am_w3 73 rfl
theorem mx_X0_moveTo : Cond.selects (yX0_moveTo).cls yX0_moveTo yX0_moveTo ∈ lw_tbl := am_w3 74 rfl
theorem mo_X0_isOf : am_mo yX0_isOf cX0_isOf 2 (some .boolean) 2 := ⟨am_w2 184 rfl, am_w1 6 rfl, by decide, by decide, by decide +kernel, by decide⟩
theorem ms_X0_isOf : Cond.static yX0_isOf ∈ lw_tbl := am_w2 183 rfl
theorem mo_X1_start : am_mo yX1_start cX1_start 6 none 4 := ⟨am_w3 97 rfl, am_w1 9 rfl, by decide, by decide, by decide +kernel, by decide⟩
theorem ms_X1_start : Cond.instanceMethod yX1_start ∈ lw_tbl := am_w3 95 rfl
theorem mx_X1_start : Cond.selects (yX1_start).cls yX1_start yX1_start ∈ lw_tbl := am_w3 96 rfl
theorem mo_X1_tryFrom : am_mo yX1_tryFrom cX1_tryFrom 7 none 2 := ⟨am_w3 111 rfl, am_w1 9 rfl, by decide, by decide, by decide +kernel, by decide⟩
theorem ms_X1_tryFrom : Cond.instanceMethod yX1_tryFrom ∈ lw_tbl := am_w3 110 rfl
theorem mx_X1_tryFrom : Cond.selects (yX1_tryFrom).cls yX1_tryFrom yX1_tryFrom ∈ lw_tbl := am_wp (q := (yX1_tryFrom, 6)) 9 rfl
theorem mo_X1_mostStill : am_mo yX1_mostStill cX1_mostStill 12 (some .int) 3 := ⟨am_w3 114 rfl, am_w1 9 rfl, by decide, by decide, by decide +kernel, by decide⟩
theorem ms_X1_mostStill : Cond.static yX1_mostStill ∈ lw_tbl := am_w3 113 rfl
theorem mo_X2_isNumber : am_mo yX2_isNumber cX2_isNumber 1 (some .boolean) 1 := ⟨am_w2 146 rfl, am_w1 8 rfl, by decide, by decide, by decide +kernel, by decide⟩
theorem ms_X2_isNumber : Cond.static yX2_isNumber ∈ lw_tbl := am_w2 145 rfl
theorem mo_X2_numbered : am_mo yX2_numbered cX2_numbered 1 (some (.object "ServedAhead$Kind")) 1 := ⟨am_w2 155 rfl, am_w1 8 rfl, by decide, by decide, by decide +kernel, by decide⟩
theorem ms_X2_numbered : Cond.static yX2_numbered ∈ lw_tbl := am_w2 154 rfl
theorem mo_X2_isA : am_mo yX2_isA cX2_isA 2 (some .boolean) 1 := ⟨am_w2 196 rfl, am_w1 8 rfl, by decide, by decide, by decide +kernel, by decide⟩
theorem ms_X2_isA : Cond.instanceMethod yX2_isA ∈ lw_tbl := am_w2 194 rfl
theorem mx_X2_isA : Cond.selects (yX2_isA).cls yX2_isA yX2_isA ∈ lw_tbl := am_w2 195 rfl
theorem mo_X2_needs : am_mo yX2_needs cX2_needs 2 (some .int) 1 := ⟨am_w2 237 rfl, am_w1 8 rfl, by decide, by decide, by decide +kernel, by decide⟩
theorem ms_X2_needs : Cond.instanceMethod yX2_needs ∈ lw_tbl := am_w2 235 rfl
theorem mx_X2_needs : Cond.selects (yX2_needs).cls yX2_needs yX2_needs ∈ lw_tbl := am_w2 236 rfl
theorem mo_X2_gets : am_mo yX2_gets cX2_gets 2 (some .int) 1 := ⟨am_w3 30 rfl, am_w1 8 rfl, by decide, by decide, by decide +kernel, by decide⟩
theorem ms_X2_gets : Cond.instanceMethod yX2_gets ∈ lw_tbl := am_w3 28 rfl
theorem mx_X2_gets : Cond.selects (yX2_gets).cls yX2_gets yX2_gets ∈ lw_tbl := am_w3 29 rfl
theorem mo_X2_owesFor : am_mo yX2_owesFor cX2_owesFor 2 (some .int) 1 := ⟨am_w3 39 rfl, am_w1 8 rfl, by decide, by decide, by decide +kernel, by decide⟩
theorem ms_X2_owesFor : Cond.instanceMethod yX2_owesFor ∈ lw_tbl := am_w3 37 rfl
theorem mx_X2_owesFor : Cond.selects (yX2_owesFor).cls yX2_owesFor yX2_owesFor ∈ lw_tbl := am_w3 38 rfl
theorem mo_X3_copy : am_mo yX3_copy cX3_copy 3 none 1 := ⟨am_w2 93 rfl, am_w1 3 rfl, by decide, by decide, by decide +kernel, by decide⟩
theorem ms_X3_copy : Cond.instanceMethod yX3_copy ∈ lw_tbl := am_w2 91 rfl
theorem mx_X3_copy : Cond.selects (yX3_copy).cls yX3_copy yX3_copy ∈ lw_tbl := am_w2 92 rfl
theorem mo_X3_termOf : am_mo yX3_termOf cX3_termOf 2 (some .int) 1 := ⟨am_w2 130 rfl, am_w1 3 rfl, by decide, by decide, by decide +kernel, by decide⟩
theorem ms_X3_termOf : Cond.instanceMethod yX3_termOf ∈ lw_tbl := am_w2 128 rfl
theorem mx_X3_termOf : Cond.selects (yX3_termOf).cls yX3_termOf yX3_termOf ∈ lw_tbl := am_w2 129 rfl
theorem mo_X3_worthOf : am_mo yX3_worthOf cX3_worthOf 2 (some .int) 1 := ⟨am_w2 135 rfl, am_w1 3 rfl, by decide, by decide, by decide +kernel, by decide⟩
theorem ms_X3_worthOf : Cond.instanceMethod yX3_worthOf ∈ lw_tbl := am_w2 133 rfl
theorem mx_X3_worthOf : Cond.selects (yX3_worthOf).cls yX3_worthOf yX3_worthOf ∈ lw_tbl := am_w2 134 rfl
theorem mo_X3_sortsOf : am_mo yX3_sortsOf cX3_sortsOf 2 (some .int) 1 := ⟨am_w2 139 rfl, am_w1 3 rfl, by decide, by decide, by decide +kernel, by decide⟩
theorem ms_X3_sortsOf : Cond.instanceMethod yX3_sortsOf ∈ lw_tbl := am_w2 137 rfl
theorem mx_X3_sortsOf : Cond.selects (yX3_sortsOf).cls yX3_sortsOf yX3_sortsOf ∈ lw_tbl := am_w2 138 rfl
theorem mo_X3_allTerms : am_mo yX3_allTerms cX3_allTerms 3 (some .int) 0 := ⟨am_w2 121 rfl, am_w1 3 rfl, by decide, by decide, by decide +kernel, by decide⟩
theorem ms_X3_allTerms : Cond.instanceMethod yX3_allTerms ∈ lw_tbl := am_w2 119 rfl
theorem mx_X3_allTerms : Cond.selects (yX3_allTerms).cls yX3_allTerms yX3_allTerms ∈ lw_tbl := am_w2 120 rfl
theorem mo_X3_firstThatCounts : am_mo yX3_firstThatCounts cX3_firstThatCounts 2 (some .int) 1 := ⟨am_w2 113 rfl, am_w1 3 rfl, by decide, by decide, by decide +kernel, by decide⟩
theorem ms_X3_firstThatCounts : Cond.instanceMethod yX3_firstThatCounts ∈ lw_tbl := am_w2 111 rfl
theorem mx_X3_firstThatCounts : Cond.selects (yX3_firstThatCounts).cls yX3_firstThatCounts yX3_firstThatCounts ∈ lw_tbl := am_w2 112 rfl
theorem mo_X4_close : am_mo yX4_close cX4_close 1 none 0 := ⟨am_w2 97 rfl, am_w1 10 rfl, by decide, by decide, by decide +kernel, by decide⟩
theorem ms_X4_close : Cond.instanceMethod yX4_close ∈ lw_tbl := am_w2 95 rfl
theorem mx_X4_close : Cond.selects (yX4_close).cls yX4_close yX4_close ∈ lw_tbl := am_w2 96 rfl
theorem mo_X4_open : am_mo yX4_open cX4_open 3 none 2 := ⟨am_w3 159 rfl, am_w1 10 rfl, by decide, by decide, by decide +kernel, by decide⟩
theorem ms_X4_open : Cond.instanceMethod yX4_open ∈ lw_tbl := am_w3 157 rfl
theorem mx_X4_open : Cond.selects (yX4_open).cls yX4_open yX4_open ∈ lw_tbl := am_w3 158 rfl
theorem mo_X4_hasRoom : am_mo yX4_hasRoom cX4_hasRoom 1 (some .boolean) 0 := ⟨am_w3 168 rfl, am_w1 10 rfl, by decide, by decide, by decide +kernel, by decide⟩
theorem ms_X4_hasRoom : Cond.instanceMethod yX4_hasRoom ∈ lw_tbl := am_w3 166 rfl
theorem mx_X4_hasRoom : Cond.selects (yX4_hasRoom).cls yX4_hasRoom yX4_hasRoom ∈ lw_tbl := am_w3 167 rfl
theorem mo_X4_write : am_mo yX4_write cX4_write 2 none 1 := ⟨am_w3 172 rfl, am_w1 10 rfl, by decide, by decide, by decide +kernel, by decide⟩
theorem ms_X4_write : Cond.instanceMethod yX4_write ∈ lw_tbl := am_w3 170 rfl
theorem mx_X4_write : Cond.selects (yX4_write).cls yX4_write yX4_write ∈ lw_tbl := am_w3 171 rfl
theorem mo_X4_walk : am_mo yX4_walk cX4_walk 2 none 1 := ⟨am_w3 180 rfl, am_w1 10 rfl, by decide, by decide, by decide +kernel, by decide⟩
theorem ms_X4_walk : Cond.instanceMethod yX4_walk ∈ lw_tbl := am_w3 178 rfl
theorem mx_X4_walk : Cond.selects (yX4_walk).cls yX4_walk yX4_walk ∈ lw_tbl := am_w3 179 rfl
theorem mo_X4_reckon : am_mo yX4_reckon cX4_reckon 2 none 1 := ⟨am_w3 184 rfl, am_w1 10 rfl, by decide, by decide, by decide +kernel, by decide⟩
theorem ms_X4_reckon : Cond.instanceMethod yX4_reckon ∈ lw_tbl := am_w3 183 rfl
theorem mx_X4_reckon : Cond.selects (yX4_reckon).cls yX4_reckon yX4_reckon ∈ lw_tbl := am_wp (q := (yX4_reckon, 7)) 11 rfl
theorem mo_X4_walkFrom : am_mo yX4_walkFrom cX4_walkFrom 7 none 2 := ⟨am_w3 189 rfl, am_w1 10 rfl, by decide, by decide, by decide +kernel, by decide⟩
theorem ms_X4_walkFrom : Cond.instanceMethod yX4_walkFrom ∈ lw_tbl := am_w3 188 rfl
theorem mx_X4_walkFrom : Cond.selects (yX4_walkFrom).cls yX4_walkFrom yX4_walkFrom ∈ lw_tbl := am_wp (q := (yX4_walkFrom, 7)) 12 rfl
theorem mo_X4_goOn : am_mo yX4_goOn cX4_goOn 5 none 3 := ⟨am_w3 198 rfl, am_w1 10 rfl, by decide, by decide, by decide +kernel, by decide⟩
theorem ms_X4_goOn : Cond.instanceMethod yX4_goOn ∈ lw_tbl := am_w3 197 rfl
theorem mx_X4_goOn : Cond.selects (yX4_goOn).cls yX4_goOn yX4_goOn ∈ lw_tbl := am_wp (q := (yX4_goOn, 7)) 13 rfl
theorem mo_X5_hasRoom : am_mo yX5_hasRoom cX5_hasRoom 1 (some .boolean) 0 := ⟨am_w2 29 rfl, am_w1 2 rfl, by decide, by decide, by decide +kernel, by decide⟩
theorem ms_X5_hasRoom : Cond.instanceMethod yX5_hasRoom ∈ lw_tbl := am_w2 27 rfl
theorem mx_X5_hasRoom : Cond.selects (yX5_hasRoom).cls yX5_hasRoom yX5_hasRoom ∈ lw_tbl := am_w2 28 rfl
theorem mo_X5_write : am_mo yX5_write cX5_write 2 none 1 := ⟨am_w2 33 rfl, am_w1 2 rfl, by decide, by decide, by decide +kernel, by decide⟩
theorem ms_X5_write : Cond.instanceMethod yX5_write ∈ lw_tbl := am_w2 31 rfl
theorem mx_X5_write : Cond.selects (yX5_write).cls yX5_write yX5_write ∈ lw_tbl := am_w2 32 rfl
theorem mo_X5_at : am_mo yX5_at cX5_at 2 (some .int) 1 := ⟨am_w2 49 rfl, am_w1 2 rfl, by decide, by decide, by decide +kernel, by decide⟩
theorem ms_X5_at : Cond.instanceMethod yX5_at ∈ lw_tbl := am_w2 47 rfl
theorem mx_X5_at : Cond.selects (yX5_at).cls yX5_at yX5_at ∈ lw_tbl := am_w2 48 rfl
theorem mo_X5_firstFault : am_mo yX5_firstFault cX5_firstFault 2 (some .int) 0 := ⟨am_w2 45 rfl, am_w1 2 rfl, by decide, by decide, by decide +kernel, by decide⟩
theorem ms_X5_firstFault : Cond.instanceMethod yX5_firstFault ∈ lw_tbl := am_w2 43 rfl
theorem mx_X5_firstFault : Cond.selects (yX5_firstFault).cls yX5_firstFault yX5_firstFault ∈ lw_tbl := am_w2 44 rfl
theorem mo_X5_isLaw : am_mo yX5_isLaw cX5_isLaw 1 (some .boolean) 0 := ⟨am_w2 88 rfl, am_w1 2 rfl, by decide, by decide, by decide +kernel, by decide⟩
theorem ms_X5_isLaw : Cond.instanceMethod yX5_isLaw ∈ lw_tbl := am_w2 86 rfl
theorem mx_X5_isLaw : Cond.selects (yX5_isLaw).cls yX5_isLaw yX5_isLaw ∈ lw_tbl := am_w2 87 rfl
theorem mo_X5_takes : am_mo yX5_takes cX5_takes 3 (some .boolean) 1 := ⟨am_w2 53 rfl, am_w1 2 rfl, by decide, by decide, by decide +kernel, by decide⟩
theorem ms_X5_takes : Cond.instanceMethod yX5_takes ∈ lw_tbl := am_w2 52 rfl
theorem mx_X5_takes : Cond.selects (yX5_takes).cls yX5_takes yX5_takes ∈ lw_tbl := am_wp (q := (yX5_takes, 5)) 0 rfl
theorem mo_X5_takesTerm : am_mo yX5_takesTerm cX5_takesTerm 2 (some .boolean) 1 := ⟨am_w2 57 rfl, am_w1 2 rfl, by decide, by decide, by decide +kernel, by decide⟩
theorem ms_X5_takesTerm : Cond.instanceMethod yX5_takesTerm ∈ lw_tbl := am_w2 56 rfl
theorem mx_X5_takesTerm : Cond.selects (yX5_takesTerm).cls yX5_takesTerm yX5_takesTerm ∈ lw_tbl := am_wp (q := (yX5_takesTerm, 5)) 1 rfl
theorem mo_X5_takesWorth : am_mo yX5_takesWorth cX5_takesWorth 2 (some .boolean) 1 := ⟨am_w2 64 rfl, am_w1 2 rfl, by decide, by decide, by decide +kernel, by decide⟩
theorem ms_X5_takesWorth : Cond.instanceMethod yX5_takesWorth ∈ lw_tbl := am_w2 63 rfl
theorem mx_X5_takesWorth : Cond.selects (yX5_takesWorth).cls yX5_takesWorth yX5_takesWorth ∈ lw_tbl := am_wp (q := (yX5_takesWorth, 5)) 2 rfl
theorem mo_X5_takesColon : am_mo yX5_takesColon cX5_takesColon 2 (some .boolean) 1 := ⟨am_w2 68 rfl, am_w1 2 rfl, by decide, by decide, by decide +kernel, by decide⟩
theorem ms_X5_takesColon : Cond.instanceMethod yX5_takesColon ∈ lw_tbl := am_w2 67 rfl
theorem mx_X5_takesColon : Cond.selects (yX5_takesColon).cls yX5_takesColon yX5_takesColon ∈ lw_tbl := am_wp (q := (yX5_takesColon, 5)) 3 rfl
theorem mo_X5_takesSort : am_mo yX5_takesSort cX5_takesSort 2 (some .boolean) 1 := ⟨am_w2 72 rfl, am_w1 2 rfl, by decide, by decide, by decide +kernel, by decide⟩
theorem ms_X5_takesSort : Cond.instanceMethod yX5_takesSort ∈ lw_tbl := am_w2 71 rfl
theorem mx_X5_takesSort : Cond.selects (yX5_takesSort).cls yX5_takesSort yX5_takesSort ∈ lw_tbl := am_wp (q := (yX5_takesSort, 5)) 4 rfl
theorem mo_X5_takesEndOfDeed : am_mo yX5_takesEndOfDeed cX5_takesEndOfDeed 3 (some .boolean) 1 := ⟨am_w2 76 rfl, am_w1 2 rfl, by decide, by decide, by decide +kernel, by decide⟩
theorem ms_X5_takesEndOfDeed : Cond.instanceMethod yX5_takesEndOfDeed ∈ lw_tbl := am_w2 75 rfl
theorem mx_X5_takesEndOfDeed : Cond.selects (yX5_takesEndOfDeed).cls yX5_takesEndOfDeed yX5_takesEndOfDeed ∈ lw_tbl := am_wp (q := (yX5_takesEndOfDeed, 5)) 5 rfl
theorem mo_X5_takesLapse : am_mo yX5_takesLapse cX5_takesLapse 2 (some .boolean) 1 := ⟨am_w2 80 rfl, am_w1 2 rfl, by decide, by decide, by decide +kernel, by decide⟩
theorem ms_X5_takesLapse : Cond.instanceMethod yX5_takesLapse ∈ lw_tbl := am_w2 79 rfl
theorem mx_X5_takesLapse : Cond.selects (yX5_takesLapse).cls yX5_takesLapse yX5_takesLapse ∈ lw_tbl := am_wp (q := (yX5_takesLapse, 5)) 6 rfl
theorem mo_X6_begin : am_mo yX6_begin cX6_begin 2 none 1 := ⟨am_w2 164 rfl, am_w1 5 rfl, by decide, by decide, by decide +kernel, by decide⟩
theorem ms_X6_begin : Cond.instanceMethod yX6_begin ∈ lw_tbl := am_w2 162 rfl
theorem mx_X6_begin : Cond.selects (yX6_begin).cls yX6_begin yX6_begin ∈ lw_tbl := am_w2 163 rfl
theorem mo_X6_copy : am_mo yX6_copy cX6_copy 2 none 1 := ⟨am_w3 101 rfl, am_w1 5 rfl, by decide, by decide, by decide +kernel, by decide⟩
theorem ms_X6_copy : Cond.instanceMethod yX6_copy ∈ lw_tbl := am_w3 99 rfl
theorem mx_X6_copy : Cond.selects (yX6_copy).cls yX6_copy yX6_copy ∈ lw_tbl := am_w3 100 rfl
theorem mo_X6_told : am_mo yX6_told cX6_told 2 (some .int) 1 := ⟨am_w2 177 rfl, am_w1 5 rfl, by decide, by decide, by decide +kernel, by decide⟩
theorem ms_X6_told : Cond.instanceMethod yX6_told ∈ lw_tbl := am_w2 175 rfl
theorem mx_X6_told : Cond.selects (yX6_told).cls yX6_told yX6_told ∈ lw_tbl := am_w2 176 rfl
theorem mo_X6_enter : am_mo yX6_enter cX6_enter 3 none 2 := ⟨am_w3 51 rfl, am_w1 5 rfl, by decide, by decide, by decide +kernel, by decide⟩
theorem ms_X6_enter : Cond.instanceMethod yX6_enter ∈ lw_tbl := am_w3 49 rfl
theorem mx_X6_enter : Cond.selects (yX6_enter).cls yX6_enter yX6_enter ∈ lw_tbl := am_w3 50 rfl
theorem mo_X6_dropLapsed : am_mo yX6_dropLapsed cX6_dropLapsed 3 none 2 := ⟨am_w2 109 rfl, am_w1 5 rfl, by decide, by decide, by decide +kernel, by decide⟩
theorem ms_X6_dropLapsed : Cond.instanceMethod yX6_dropLapsed ∈ lw_tbl := am_w2 107 rfl
theorem mx_X6_dropLapsed : Cond.selects (yX6_dropLapsed).cls yX6_dropLapsed yX6_dropLapsed ∈ lw_tbl := am_w2 108 rfl
theorem mo_X6_isCovered : am_mo yX6_isCovered cX6_isCovered 5 (some .boolean) 4 := ⟨am_w2 232 rfl, am_w1 5 rfl, by decide, by decide, by decide +kernel, by decide⟩
theorem ms_X6_isCovered : Cond.instanceMethod yX6_isCovered ∈ lw_tbl := am_w2 230 rfl
theorem mx_X6_isCovered : Cond.selects (yX6_isCovered).cls yX6_isCovered yX6_isCovered ∈ lw_tbl := am_w2 231 rfl
theorem mo_X6_isFreeTo : am_mo yX6_isFreeTo cX6_isFreeTo 4 (some .boolean) 2 := ⟨am_w2 225 rfl, am_w1 5 rfl, by decide, by decide, by decide +kernel, by decide⟩
theorem ms_X6_isFreeTo : Cond.instanceMethod yX6_isFreeTo ∈ lw_tbl := am_w2 223 rfl
theorem mx_X6_isFreeTo : Cond.selects (yX6_isFreeTo).cls yX6_isFreeTo yX6_isFreeTo ∈ lw_tbl := am_w2 224 rfl
theorem mo_X6_does : am_mo yX6_does cX6_does 4 none 3 := ⟨am_w3 8 rfl, am_w1 5 rfl, by decide, by decide, by decide +kernel, by decide⟩
theorem ms_X6_does : Cond.instanceMethod yX6_does ∈ lw_tbl := am_w3 6 rfl
theorem mx_X6_does : Cond.selects (yX6_does).cls yX6_does yX6_does ∈ lw_tbl := am_w3 7 rfl
theorem mo_X6_earns : am_mo yX6_earns cX6_earns 4 none 2 := ⟨am_w3 12 rfl, am_w1 5 rfl, by decide, by decide, by decide +kernel, by decide⟩
theorem ms_X6_earns : Cond.instanceMethod yX6_earns ∈ lw_tbl := am_w3 11 rfl
theorem mx_X6_earns : Cond.selects (yX6_earns).cls yX6_earns yX6_earns ∈ lw_tbl := am_wp (q := (yX6_earns, 6)) 7 rfl
theorem mo_X6_getsBy : am_mo yX6_getsBy cX6_getsBy 3 (some .int) 2 := ⟨am_w3 24 rfl, am_w1 5 rfl, by decide, by decide, by decide +kernel, by decide⟩
theorem ms_X6_getsBy : Cond.instanceMethod yX6_getsBy ∈ lw_tbl := am_w3 22 rfl
theorem mx_X6_getsBy : Cond.selects (yX6_getsBy).cls yX6_getsBy yX6_getsBy ∈ lw_tbl := am_w3 23 rfl
theorem mo_X6_owesAfter : am_mo yX6_owesAfter cX6_owesAfter 3 (some .int) 2 := ⟨am_w3 34 rfl, am_w1 5 rfl, by decide, by decide, by decide +kernel, by decide⟩
theorem ms_X6_owesAfter : Cond.instanceMethod yX6_owesAfter ∈ lw_tbl := am_w3 32 rfl
theorem mx_X6_owesAfter : Cond.selects (yX6_owesAfter).cls yX6_owesAfter yX6_owesAfter ∈ lw_tbl := am_w3 33 rfl
theorem mo_X7_copy : am_mo yX7_copy cX7_copy 3 none 1 := ⟨am_w3 212 rfl, am_w1 4 rfl, by decide, by decide, by decide +kernel, by decide⟩
theorem ms_X7_copy : Cond.instanceMethod yX7_copy ∈ lw_tbl := am_w3 210 rfl
theorem mx_X7_copy : Cond.selects (yX7_copy).cls yX7_copy yX7_copy ∈ lw_tbl := am_w3 211 rfl
theorem mo_X7_hasRoom : am_mo yX7_hasRoom cX7_hasRoom 1 (some .boolean) 0 := ⟨am_w2 152 rfl, am_w1 4 rfl, by decide, by decide, by decide +kernel, by decide⟩
theorem ms_X7_hasRoom : Cond.instanceMethod yX7_hasRoom ∈ lw_tbl := am_w2 150 rfl
theorem mx_X7_hasRoom : Cond.selects (yX7_hasRoom).cls yX7_hasRoom yX7_hasRoom ∈ lw_tbl := am_w2 151 rfl
theorem mo_X7_isKnown : am_mo yX7_isKnown cX7_isKnown 2 (some .boolean) 1 := ⟨am_w2 172 rfl, am_w1 4 rfl, by decide, by decide, by decide +kernel, by decide⟩
theorem ms_X7_isKnown : Cond.instanceMethod yX7_isKnown ∈ lw_tbl := am_w2 170 rfl
theorem mx_X7_isKnown : Cond.selects (yX7_isKnown).cls yX7_isKnown yX7_isKnown ∈ lw_tbl := am_w2 171 rfl
theorem mo_X7_isHere : am_mo yX7_isHere cX7_isHere 2 (some .boolean) 1 := ⟨am_w2 208 rfl, am_w1 4 rfl, by decide, by decide, by decide +kernel, by decide⟩
theorem ms_X7_isHere : Cond.instanceMethod yX7_isHere ∈ lw_tbl := am_w2 206 rfl
theorem mx_X7_isHere : Cond.selects (yX7_isHere).cls yX7_isHere yX7_isHere ∈ lw_tbl := am_w2 207 rfl
theorem mo_X7_one : am_mo yX7_one cX7_one 2 (some (.object "ServedAhead$Person")) 1 := ⟨am_w2 105 rfl, am_w1 4 rfl, by decide, by decide, by decide +kernel, by decide⟩
theorem ms_X7_one : Cond.instanceMethod yX7_one ∈ lw_tbl := am_w2 103 rfl
theorem mx_X7_one : Cond.selects (yX7_one).cls yX7_one yX7_one ∈ lw_tbl := am_w2 104 rfl
theorem mo_X7_welcome : am_mo yX7_welcome cX7_welcome 3 (some .int) 1 := ⟨am_w2 160 rfl, am_w1 4 rfl, by decide, by decide, by decide +kernel, by decide⟩
theorem ms_X7_welcome : Cond.instanceMethod yX7_welcome ∈ lw_tbl := am_w2 158 rfl
theorem mx_X7_welcome : Cond.selects (yX7_welcome).cls yX7_welcome yX7_welcome ∈ lw_tbl := am_w2 159 rfl
theorem mo_X7_passWeek : am_mo yX7_passWeek cX7_passWeek 3 none 1 := ⟨am_w3 47 rfl, am_w1 4 rfl, by decide, by decide, by decide +kernel, by decide⟩
theorem ms_X7_passWeek : Cond.instanceMethod yX7_passWeek ∈ lw_tbl := am_w3 45 rfl
theorem mx_X7_passWeek : Cond.selects (yX7_passWeek).cls yX7_passWeek yX7_passWeek ∈ lw_tbl := am_w3 46 rfl
theorem mo_X7_dropLapsed : am_mo yX7_dropLapsed cX7_dropLapsed 3 none 1 := ⟨am_w2 101 rfl, am_w1 4 rfl, by decide, by decide, by decide +kernel, by decide⟩
theorem ms_X7_dropLapsed : Cond.instanceMethod yX7_dropLapsed ∈ lw_tbl := am_w2 99 rfl
theorem mx_X7_dropLapsed : Cond.selects (yX7_dropLapsed).cls yX7_dropLapsed yX7_dropLapsed ∈ lw_tbl := am_w2 100 rfl
theorem mo_X7_forgive : am_mo yX7_forgive cX7_forgive 3 (some .int) 0 := ⟨am_w3 85 rfl, am_w1 4 rfl, by decide, by decide, by decide +kernel, by decide⟩
theorem ms_X7_forgive : Cond.instanceMethod yX7_forgive ∈ lw_tbl := am_w3 83 rfl
theorem mx_X7_forgive : Cond.selects (yX7_forgive).cls yX7_forgive yX7_forgive ∈ lw_tbl := am_w3 84 rfl
theorem mo_X7_someoneCovered : am_mo yX7_someoneCovered cX7_someoneCovered 7 (some .boolean) 3 := ⟨am_w3 149 rfl, am_w1 4 rfl, by decide, by decide, by decide +kernel, by decide⟩
theorem ms_X7_someoneCovered : Cond.instanceMethod yX7_someoneCovered ∈ lw_tbl := am_w3 147 rfl
theorem mx_X7_someoneCovered : Cond.selects (yX7_someoneCovered).cls yX7_someoneCovered yX7_someoneCovered ∈ lw_tbl := am_w3 148 rfl
theorem mo_X7_allGone : am_mo yX7_allGone cX7_allGone 3 (some .int) 0 := ⟨am_w4 14 rfl, am_w1 4 rfl, by decide, by decide, by decide +kernel, by decide⟩
theorem ms_X7_allGone : Cond.instanceMethod yX7_allGone ∈ lw_tbl := am_w4 12 rfl
theorem mx_X7_allGone : Cond.selects (yX7_allGone).cls yX7_allGone yX7_allGone ∈ lw_tbl := am_w4 13 rfl
theorem mo_X7_allOwed : am_mo yX7_allOwed cX7_allOwed 3 (some .int) 0 := ⟨am_w3 89 rfl, am_w1 4 rfl, by decide, by decide, by decide +kernel, by decide⟩
theorem ms_X7_allOwed : Cond.instanceMethod yX7_allOwed ∈ lw_tbl := am_w3 87 rfl
theorem mx_X7_allOwed : Cond.selects (yX7_allOwed).cls yX7_allOwed yX7_allOwed ∈ lw_tbl := am_w3 88 rfl
theorem mo_X7_allGot : am_mo yX7_allGot cX7_allGot 3 (some .int) 0 := ⟨am_w3 237 rfl, am_w1 4 rfl, by decide, by decide, by decide +kernel, by decide⟩
theorem ms_X7_allGot : Cond.instanceMethod yX7_allGot ∈ lw_tbl := am_w3 235 rfl
theorem mx_X7_allGot : Cond.selects (yX7_allGot).cls yX7_allGot yX7_allGot ∈ lw_tbl := am_w3 236 rfl
theorem mo_X7_allCredits : am_mo yX7_allCredits cX7_allCredits 3 (some .int) 0 := ⟨am_w4 18 rfl, am_w1 4 rfl, by decide, by decide, by decide +kernel, by decide⟩
theorem ms_X7_allCredits : Cond.instanceMethod yX7_allCredits ∈ lw_tbl := am_w4 16 rfl
theorem mx_X7_allCredits : Cond.selects (yX7_allCredits).cls yX7_allCredits yX7_allCredits ∈ lw_tbl := am_w4 17 rfl
theorem mo_X7_live : am_mo yX7_live cX7_live 6 none 3 := ⟨am_w3 217 rfl, am_w1 4 rfl, by decide, by decide, by decide +kernel, by decide⟩
theorem ms_X7_live : Cond.instanceMethod yX7_live ∈ lw_tbl := am_w3 215 rfl
theorem mx_X7_live : Cond.selects (yX7_live).cls yX7_live yX7_live ∈ lw_tbl := am_w3 216 rfl
theorem mo_X7_actByDraw : am_mo yX7_actByDraw cX7_actByDraw 4 none 2 := ⟨am_w3 221 rfl, am_w1 4 rfl, by decide, by decide, by decide +kernel, by decide⟩
theorem ms_X7_actByDraw : Cond.instanceMethod yX7_actByDraw ∈ lw_tbl := am_w3 220 rfl
theorem mx_X7_actByDraw : Cond.selects (yX7_actByDraw).cls yX7_actByDraw yX7_actByDraw ∈ lw_tbl := am_wp (q := (yX7_actByDraw, 5)) 14 rfl
theorem mo_X7_drawn : am_mo yX7_drawn cX7_drawn 1 (some .int) 0 := ⟨am_w3 225 rfl, am_w1 4 rfl, by decide, by decide, by decide +kernel, by decide⟩
theorem ms_X7_drawn : Cond.instanceMethod yX7_drawn ∈ lw_tbl := am_w3 224 rfl
theorem mx_X7_drawn : Cond.selects (yX7_drawn).cls yX7_drawn yX7_drawn ∈ lw_tbl := am_wp (q := (yX7_drawn, 5)) 15 rfl
theorem mo_X8_letter : am_mo yX8_letter cX8_letter 2 (some .int) 1 := ⟨am_w2 25 rfl, am_w1 1 rfl, by decide, by decide, by decide +kernel, by decide⟩
theorem ms_X8_letter : Cond.instanceMethod yX8_letter ∈ lw_tbl := am_w2 23 rfl
theorem mx_X8_letter : Cond.selects (yX8_letter).cls yX8_letter yX8_letter ∈ lw_tbl := am_w2 24 rfl
theorem mo_X8_blank : am_mo yX8_blank cX8_blank 2 (some .int) 0 := ⟨am_w2 37 rfl, am_w1 1 rfl, by decide, by decide, by decide +kernel, by decide⟩
theorem ms_X8_blank : Cond.instanceMethod yX8_blank ∈ lw_tbl := am_w2 35 rfl
theorem mx_X8_blank : Cond.selects (yX8_blank).cls yX8_blank yX8_blank ∈ lw_tbl := am_w2 36 rfl
theorem mo_X8_fault : am_mo yX8_fault cX8_fault 1 (some .int) 0 := ⟨am_w2 41 rfl, am_w1 1 rfl, by decide, by decide, by decide +kernel, by decide⟩
theorem ms_X8_fault : Cond.instanceMethod yX8_fault ∈ lw_tbl := am_w2 39 rfl
theorem mx_X8_fault : Cond.selects (yX8_fault).cls yX8_fault yX8_fault ∈ lw_tbl := am_w2 40 rfl
theorem mo_X8_law : am_mo yX8_law cX8_law 1 (some .int) 0 := ⟨am_w2 84 rfl, am_w1 1 rfl, by decide, by decide, by decide +kernel, by decide⟩
theorem ms_X8_law : Cond.instanceMethod yX8_law ∈ lw_tbl := am_w2 82 rfl
theorem mx_X8_law : Cond.selects (yX8_law).cls yX8_law yX8_law ∈ lw_tbl := am_w2 83 rfl
theorem mo_X8_deed : am_mo yX8_deed cX8_deed 3 (some .int) 2 := ⟨am_w2 125 rfl, am_w1 1 rfl, by decide, by decide, by decide +kernel, by decide⟩
theorem ms_X8_deed : Cond.instanceMethod yX8_deed ∈ lw_tbl := am_w2 123 rfl
theorem mx_X8_deed : Cond.selects (yX8_deed).cls yX8_deed yX8_deed ∈ lw_tbl := am_w2 124 rfl
theorem mo_X8_person : am_mo yX8_person cX8_person 2 (some .int) 1 := ⟨am_w2 143 rfl, am_w1 1 rfl, by decide, by decide, by decide +kernel, by decide⟩
theorem ms_X8_person : Cond.instanceMethod yX8_person ∈ lw_tbl := am_w2 141 rfl
theorem mx_X8_person : Cond.selects (yX8_person).cls yX8_person yX8_person ∈ lw_tbl := am_w2 142 rfl
theorem mo_X8_about : am_mo yX8_about cX8_about 3 (some .int) 2 := ⟨am_w2 168 rfl, am_w1 1 rfl, by decide, by decide, by decide +kernel, by decide⟩
theorem ms_X8_about : Cond.instanceMethod yX8_about ∈ lw_tbl := am_w2 166 rfl
theorem mx_X8_about : Cond.selects (yX8_about).cls yX8_about yX8_about ∈ lw_tbl := am_w2 167 rfl
theorem mo_X8_as : am_mo yX8_as cX8_as 3 (some .int) 2 := ⟨am_w2 192 rfl, am_w1 1 rfl, by decide, by decide, by decide +kernel, by decide⟩
theorem ms_X8_as : Cond.instanceMethod yX8_as ∈ lw_tbl := am_w2 190 rfl
theorem mx_X8_as : Cond.selects (yX8_as).cls yX8_as yX8_as ∈ lw_tbl := am_w2 191 rfl
theorem mo_X8_may : am_mo yX8_may cX8_may 3 (some .int) 2 := ⟨am_w2 204 rfl, am_w1 1 rfl, by decide, by decide, by decide +kernel, by decide⟩
theorem ms_X8_may : Cond.instanceMethod yX8_may ∈ lw_tbl := am_w2 202 rfl
theorem mx_X8_may : Cond.selects (yX8_may).cls yX8_may yX8_may ∈ lw_tbl := am_w2 203 rfl
theorem mo_X8_act : am_mo yX8_act cX8_act 4 (some .int) 2 := ⟨am_w3 4 rfl, am_w1 1 rfl, by decide, by decide, by decide +kernel, by decide⟩
theorem ms_X8_act : Cond.instanceMethod yX8_act ∈ lw_tbl := am_w3 2 rfl
theorem mx_X8_act : Cond.selects (yX8_act).cls yX8_act yX8_act ∈ lw_tbl := am_w3 3 rfl
theorem mo_X8_week : am_mo yX8_week cX8_week 1 (some .int) 0 := ⟨am_w3 43 rfl, am_w1 1 rfl, by decide, by decide, by decide +kernel, by decide⟩
theorem ms_X8_week : Cond.instanceMethod yX8_week ∈ lw_tbl := am_w3 41 rfl
theorem mx_X8_week : Cond.selects (yX8_week).cls yX8_week yX8_week ∈ lw_tbl := am_w3 42 rfl
theorem mo_X8_sell : am_mo yX8_sell cX8_sell 7 (some .int) 3 := ⟨am_w3 56 rfl, am_w1 1 rfl, by decide, by decide, by decide +kernel, by decide⟩
theorem ms_X8_sell : Cond.instanceMethod yX8_sell ∈ lw_tbl := am_w3 54 rfl
theorem mx_X8_sell : Cond.selects (yX8_sell).cls yX8_sell yX8_sell ∈ lw_tbl := am_w3 55 rfl
theorem mo_X8_leave : am_mo yX8_leave cX8_leave 4 (some .int) 2 := ⟨am_w3 71 rfl, am_w1 1 rfl, by decide, by decide, by decide +kernel, by decide⟩
theorem ms_X8_leave : Cond.instanceMethod yX8_leave ∈ lw_tbl := am_w3 69 rfl
theorem mx_X8_leave : Cond.selects (yX8_leave).cls yX8_leave yX8_leave ∈ lw_tbl := am_w3 70 rfl
theorem mo_X8_amnesty : am_mo yX8_amnesty cX8_amnesty 1 (some .int) 0 := ⟨am_w3 81 rfl, am_w1 1 rfl, by decide, by decide, by decide +kernel, by decide⟩
theorem ms_X8_amnesty : Cond.instanceMethod yX8_amnesty ∈ lw_tbl := am_w3 79 rfl
theorem mx_X8_amnesty : Cond.selects (yX8_amnesty).cls yX8_amnesty yX8_amnesty ∈ lw_tbl := am_w3 80 rfl
theorem mo_X8_gain : am_mo yX8_gain cX8_gain 4 (some .int) 3 := ⟨am_w3 93 rfl, am_w1 1 rfl, by decide, by decide, by decide +kernel, by decide⟩
theorem ms_X8_gain : Cond.instanceMethod yX8_gain ∈ lw_tbl := am_w3 91 rfl
theorem mx_X8_gain : Cond.selects (yX8_gain).cls yX8_gain yX8_gain ∈ lw_tbl := am_w3 92 rfl
theorem mo_X8_soon : am_mo yX8_soon cX8_soon 6 (some .int) 2 := ⟨am_w3 134 rfl, am_w1 1 rfl, by decide, by decide, by decide +kernel, by decide⟩
theorem ms_X8_soon : Cond.instanceMethod yX8_soon ∈ lw_tbl := am_w3 132 rfl
theorem mx_X8_soon : Cond.selects (yX8_soon).cls yX8_soon yX8_soon ∈ lw_tbl := am_w3 133 rfl
theorem mo_X8_kept : am_mo yX8_kept cX8_kept 3 (some .int) 1 := ⟨am_w3 145 rfl, am_w1 1 rfl, by decide, by decide, by decide +kernel, by decide⟩
theorem ms_X8_kept : Cond.instanceMethod yX8_kept ∈ lw_tbl := am_w3 143 rfl
theorem mx_X8_kept : Cond.selects (yX8_kept).cls yX8_kept yX8_kept ∈ lw_tbl := am_w3 144 rfl
theorem mo_X8_book : am_mo yX8_book cX8_book 3 (some .int) 1 := ⟨am_w3 155 rfl, am_w1 1 rfl, by decide, by decide, by decide +kernel, by decide⟩
theorem ms_X8_book : Cond.instanceMethod yX8_book ∈ lw_tbl := am_w3 153 rfl
theorem mx_X8_book : Cond.selects (yX8_book).cls yX8_book yX8_book ∈ lw_tbl := am_w3 154 rfl
theorem mo_X8_next : am_mo yX8_next cX8_next 2 (some .int) 1 := ⟨am_w3 164 rfl, am_w1 1 rfl, by decide, by decide, by decide +kernel, by decide⟩
theorem ms_X8_next : Cond.instanceMethod yX8_next ∈ lw_tbl := am_w3 162 rfl
theorem mx_X8_next : Cond.selects (yX8_next).cls yX8_next yX8_next ∈ lw_tbl := am_w3 163 rfl
theorem mo_X8_ways : am_mo yX8_ways cX8_ways 1 (some .int) 0 := ⟨am_w3 176 rfl, am_w1 1 rfl, by decide, by decide, by decide +kernel, by decide⟩
theorem ms_X8_ways : Cond.instanceMethod yX8_ways ∈ lw_tbl := am_w3 174 rfl
theorem mx_X8_ways : Cond.selects (yX8_ways).cls yX8_ways yX8_ways ∈ lw_tbl := am_w3 175 rfl
theorem mo_X8_owed : am_mo yX8_owed cX8_owed 1 (some .int) 0 := ⟨am_w3 204 rfl, am_w1 1 rfl, by decide, by decide, by decide +kernel, by decide⟩
theorem ms_X8_owed : Cond.instanceMethod yX8_owed ∈ lw_tbl := am_w3 202 rfl
theorem mx_X8_owed : Cond.selects (yX8_owed).cls yX8_owed yX8_owed ∈ lw_tbl := am_w3 203 rfl
theorem mo_X8_years : am_mo yX8_years cX8_years 4 (some .int) 3 := ⟨am_w3 208 rfl, am_w1 1 rfl, by decide, by decide, by decide +kernel, by decide⟩
theorem ms_X8_years : Cond.instanceMethod yX8_years ∈ lw_tbl := am_w3 206 rfl
theorem mx_X8_years : Cond.selects (yX8_years).cls yX8_years yX8_years ∈ lw_tbl := am_w3 207 rfl
theorem mo_X8_image : am_mo yX8_image cX8_image 1 (some .int) 0 := ⟨am_w4 2 rfl, am_w1 1 rfl, by decide, by decide, by decide +kernel, by decide⟩
theorem ms_X8_image : Cond.instanceMethod yX8_image ∈ lw_tbl := am_w4 0 rfl
theorem mx_X8_image : Cond.selects (yX8_image).cls yX8_image yX8_image ∈ lw_tbl := am_w4 1 rfl
theorem mo_X8_restore : am_mo yX8_restore cX8_restore 1 (some .int) 0 := ⟨am_w4 6 rfl, am_w1 1 rfl, by decide, by decide, by decide +kernel, by decide⟩
theorem ms_X8_restore : Cond.instanceMethod yX8_restore ∈ lw_tbl := am_w4 4 rfl
theorem mx_X8_restore : Cond.selects (yX8_restore).cls yX8_restore yX8_restore ∈ lw_tbl := am_w4 5 rfl
theorem mo_X8_count : am_mo yX8_count cX8_count 2 (some .int) 1 := ⟨am_w4 10 rfl, am_w1 1 rfl, by decide, by decide, by decide +kernel, by decide⟩
theorem ms_X8_count : Cond.instanceMethod yX8_count ∈ lw_tbl := am_w4 8 rfl
theorem mx_X8_count : Cond.selects (yX8_count).cls yX8_count yX8_count ∈ lw_tbl := am_w4 9 rfl
theorem mo_X8_digest : am_mo yX8_digest cX8_digest 4 (some .long) 0 := ⟨am_w4 22 rfl, am_w1 1 rfl, by decide, by decide, by decide +kernel, by decide⟩
theorem ms_X8_digest : Cond.instanceMethod yX8_digest ∈ lw_tbl := am_w4 20 rfl
theorem mx_X8_digest : Cond.selects (yX8_digest).cls yX8_digest yX8_digest ∈ lw_tbl := am_w4 21 rfl
theorem mo_X8_withDeed : am_mo yX8_withDeed cX8_withDeed 7 (some .long) 2 := ⟨am_w4 27 rfl, am_w1 1 rfl, by decide, by decide, by decide +kernel, by decide⟩
theorem ms_X8_withDeed : Cond.instanceMethod yX8_withDeed ∈ lw_tbl := am_w4 26 rfl
theorem mx_X8_withDeed : Cond.selects (yX8_withDeed).cls yX8_withDeed yX8_withDeed ∈ lw_tbl := am_wp (q := (yX8_withDeed, 12)) 16 rfl
theorem mo_X8_withPerson : am_mo yX8_withPerson cX8_withPerson 7 (some .long) 2 := ⟨am_w4 34 rfl, am_w1 1 rfl, by decide, by decide, by decide +kernel, by decide⟩
theorem ms_X8_withPerson : Cond.instanceMethod yX8_withPerson ∈ lw_tbl := am_w4 33 rfl
theorem mx_X8_withPerson : Cond.selects (yX8_withPerson).cls yX8_withPerson yX8_withPerson ∈ lw_tbl := am_wp (q := (yX8_withPerson, 12)) 17 rfl
theorem mo_X8_weeksOfServing : am_mo yX8_weeksOfServing cX8_weeksOfServing 6 (some .int) 3 := ⟨am_w3 138 rfl, am_w1 1 rfl, by decide, by decide, by decide +kernel, by decide⟩
theorem ms_X8_weeksOfServing : Cond.instanceMethod yX8_weeksOfServing ∈ lw_tbl := am_w3 137 rfl
theorem mx_X8_weeksOfServing : Cond.selects (yX8_weeksOfServing).cls yX8_weeksOfServing yX8_weeksOfServing ∈ lw_tbl := am_wp (q := (yX8_weeksOfServing, 12)) 10 rfl
theorem mo_X8_arePair : am_mo yX8_arePair cX8_arePair 3 (some .boolean) 2 := ⟨am_w3 60 rfl, am_w1 1 rfl, by decide, by decide, by decide +kernel, by decide⟩
theorem ms_X8_arePair : Cond.instanceMethod yX8_arePair ∈ lw_tbl := am_w3 59 rfl
theorem mx_X8_arePair : Cond.selects (yX8_arePair).cls yX8_arePair yX8_arePair ∈ lw_tbl := am_wp (q := (yX8_arePair, 12)) 8 rfl
theorem mo_X8_isDeed : am_mo yX8_isDeed cX8_isDeed 1 (some .boolean) 1 := ⟨am_w2 60 rfl, am_w1 1 rfl, by decide, by decide, by decide +kernel, by decide⟩
theorem ms_X8_isDeed : Cond.static yX8_isDeed ∈ lw_tbl := am_w2 59 rfl
theorem mo_X8_isServing : am_mo yX8_isServing cX8_isServing 1 (some .boolean) 1 := ⟨am_w2 215 rfl, am_w1 1 rfl, by decide, by decide, by decide +kernel, by decide⟩
theorem ms_X8_isServing : Cond.static yX8_isServing ∈ lw_tbl := am_w2 214 rfl
theorem mo_X8_isCoveredDeed : am_mo yX8_isCoveredDeed cX8_isCoveredDeed 1 (some .boolean) 1 := ⟨am_w2 218 rfl, am_w1 1 rfl, by decide, by decide, by decide +kernel, by decide⟩
theorem ms_X8_isCoveredDeed : Cond.static yX8_isCoveredDeed ∈ lw_tbl := am_w2 217 rfl
theorem mo_X8_isBareDeed : am_mo yX8_isBareDeed cX8_isBareDeed 1 (some .boolean) 1 := ⟨am_w2 221 rfl, am_w1 1 rfl, by decide, by decide, by decide +kernel, by decide⟩
theorem ms_X8_isBareDeed : Cond.static yX8_isBareDeed ∈ lw_tbl := am_w2 220 rfl
theorem mo_X8_isAct : am_mo yX8_isAct cX8_isAct 1 (some .boolean) 1 := ⟨am_w2 212 rfl, am_w1 1 rfl, by decide, by decide, by decide +kernel, by decide⟩
theorem ms_X8_isAct : Cond.static yX8_isAct ∈ lw_tbl := am_w2 211 rfl
theorem mo_X8_actAt : am_mo yX8_actAt cX8_actAt 1 (some .int) 1 := ⟨am_w3 126 rfl, am_w1 1 rfl, by decide, by decide, by decide +kernel, by decide⟩
theorem ms_X8_actAt : Cond.static yX8_actAt ∈ lw_tbl := am_w3 125 rfl
theorem mo_X9_within : am_mo yX9_within cX9_within 3 (some .boolean) 3 := ⟨am_w4 236 rfl, am_w1 11 rfl, by decide, by decide, by decide +kernel, by decide⟩
theorem ms_X9_within : Cond.static yX9_within ∈ lw_tbl := am_w4 235 rfl
theorem mo_X9_has : am_mo yX9_has cX9_has 2 (some .boolean) 2 := ⟨am_w5 19 rfl, am_w1 11 rfl, by decide, by decide, by decide +kernel, by decide⟩
theorem ms_X9_has : Cond.static yX9_has ∈ lw_tbl := am_w5 18 rfl
theorem mo_X9_letter : am_mo yX9_letter cX9_letter 2 (some .int) 1 := ⟨am_w4 233 rfl, am_w1 11 rfl, by decide, by decide, by decide +kernel, by decide⟩
theorem ms_X9_letter : Cond.instanceMethod yX9_letter ∈ lw_tbl := am_w4 231 rfl
theorem mx_X9_letter : Cond.selects (yX9_letter).cls yX9_letter yX9_letter ∈ lw_tbl := am_w4 232 rfl
theorem mo_X9_blank : am_mo yX9_blank cX9_blank 2 (some .int) 0 := ⟨am_w5 0 rfl, am_w1 11 rfl, by decide, by decide, by decide +kernel, by decide⟩
theorem ms_X9_blank : Cond.instanceMethod yX9_blank ∈ lw_tbl := am_w4 238 rfl
theorem mx_X9_blank : Cond.selects (yX9_blank).cls yX9_blank yX9_blank ∈ lw_tbl := am_w4 239 rfl
theorem mo_X9_nextState : am_mo yX9_nextState cX9_nextState 4 (some .int) 2 := ⟨am_w5 12 rfl, am_w1 11 rfl, by decide, by decide, by decide +kernel, by decide⟩
theorem ms_X9_nextState : Cond.instanceMethod yX9_nextState ∈ lw_tbl := am_w5 11 rfl
theorem mx_X9_nextState : Cond.selects (yX9_nextState).cls yX9_nextState yX9_nextState ∈ lw_tbl := am_wp (q := (yX9_nextState, 61)) 19 rfl
theorem mo_X9_sortState : am_mo yX9_sortState cX9_sortState 4 (some .int) 3 := ⟨am_w5 16 rfl, am_w1 11 rfl, by decide, by decide, by decide +kernel, by decide⟩
theorem ms_X9_sortState : Cond.instanceMethod yX9_sortState ∈ lw_tbl := am_w5 15 rfl
theorem mx_X9_sortState : Cond.selects (yX9_sortState).cls yX9_sortState yX9_sortState ∈ lw_tbl := am_wp (q := (yX9_sortState, 61)) 20 rfl
theorem mo_X9_readLaw : am_mo yX9_readLaw cX9_readLaw 5 none 0 := ⟨am_w5 8 rfl, am_w1 11 rfl, by decide, by decide, by decide +kernel, by decide⟩
theorem ms_X9_readLaw : Cond.instanceMethod yX9_readLaw ∈ lw_tbl := am_w5 7 rfl
theorem mx_X9_readLaw : Cond.selects (yX9_readLaw).cls yX9_readLaw yX9_readLaw ∈ lw_tbl := am_wp (q := (yX9_readLaw, 61)) 18 rfl
theorem mo_X9_fault : am_mo yX9_fault cX9_fault 1 (some .int) 0 := ⟨am_w5 4 rfl, am_w1 11 rfl, by decide, by decide, by decide +kernel, by decide⟩
theorem ms_X9_fault : Cond.instanceMethod yX9_fault ∈ lw_tbl := am_w5 2 rfl
theorem mx_X9_fault : Cond.selects (yX9_fault).cls yX9_fault yX9_fault ∈ lw_tbl := am_w5 3 rfl
theorem mo_X9_law : am_mo yX9_law cX9_law 3 (some .int) 0 := ⟨am_w5 23 rfl, am_w1 11 rfl, by decide, by decide, by decide +kernel, by decide⟩
theorem ms_X9_law : Cond.instanceMethod yX9_law ∈ lw_tbl := am_w5 21 rfl
theorem mx_X9_law : Cond.selects (yX9_law).cls yX9_law yX9_law ∈ lw_tbl := am_w5 22 rfl
theorem mo_X9_isDeed : am_mo yX9_isDeed cX9_isDeed 1 (some .boolean) 1 := ⟨am_w5 38 rfl, am_w1 11 rfl, by decide, by decide, by decide +kernel, by decide⟩
theorem ms_X9_isDeed : Cond.static yX9_isDeed ∈ lw_tbl := am_w5 37 rfl
theorem mo_X9_deedNow : am_mo yX9_deedNow cX9_deedNow 3 (some .int) 2 := ⟨am_w5 42 rfl, am_w1 11 rfl, by decide, by decide, by decide +kernel, by decide⟩
theorem ms_X9_deedNow : Cond.instanceMethod yX9_deedNow ∈ lw_tbl := am_w5 41 rfl
theorem mx_X9_deedNow : Cond.selects (yX9_deedNow).cls yX9_deedNow yX9_deedNow ∈ lw_tbl := am_wp (q := (yX9_deedNow, 61)) 23 rfl
theorem mo_X9_deed : am_mo yX9_deed cX9_deed 3 (some .int) 2 := ⟨am_w5 35 rfl, am_w1 11 rfl, by decide, by decide, by decide +kernel, by decide⟩
theorem ms_X9_deed : Cond.instanceMethod yX9_deed ∈ lw_tbl := am_w5 33 rfl
theorem mx_X9_deed : Cond.selects (yX9_deed).cls yX9_deed yX9_deed ∈ lw_tbl := am_w5 34 rfl
theorem mo_X9_lapseOf : am_mo yX9_lapseOf cX9_lapseOf 6 none 2 := ⟨am_w5 31 rfl, am_w1 11 rfl, by decide, by decide, by decide +kernel, by decide⟩
theorem ms_X9_lapseOf : Cond.instanceMethod yX9_lapseOf ∈ lw_tbl := am_w5 30 rfl
theorem mx_X9_lapseOf : Cond.selects (yX9_lapseOf).cls yX9_lapseOf yX9_lapseOf ∈ lw_tbl := am_wp (q := (yX9_lapseOf, 61)) 22 rfl
theorem mo_X9_lapseAll : am_mo yX9_lapseAll cX9_lapseAll 2 none 0 := ⟨am_w5 27 rfl, am_w1 11 rfl, by decide, by decide, by decide +kernel, by decide⟩
theorem ms_X9_lapseAll : Cond.instanceMethod yX9_lapseAll ∈ lw_tbl := am_w5 26 rfl
theorem mx_X9_lapseAll : Cond.selects (yX9_lapseAll).cls yX9_lapseAll yX9_lapseAll ∈ lw_tbl := am_wp (q := (yX9_lapseAll, 61)) 21 rfl
theorem mo_X9_give : am_mo yX9_give cX9_give 4 (some .boolean) 2 := ⟨am_w5 116 rfl, am_w1 11 rfl, by decide, by decide, by decide +kernel, by decide⟩
theorem ms_X9_give : Cond.instanceMethod yX9_give ∈ lw_tbl := am_w5 115 rfl
theorem mx_X9_give : Cond.selects (yX9_give).cls yX9_give yX9_give ∈ lw_tbl := am_wp (q := (yX9_give, 61)) 35 rfl
theorem mo_X9_countOf : am_mo yX9_countOf cX9_countOf 5 (some .int) 2 := ⟨am_w5 62 rfl, am_w1 11 rfl, by decide, by decide, by decide +kernel, by decide⟩
theorem ms_X9_countOf : Cond.instanceMethod yX9_countOf ∈ lw_tbl := am_w5 61 rfl
theorem mx_X9_countOf : Cond.selects (yX9_countOf).cls yX9_countOf yX9_countOf ∈ lw_tbl := am_wp (q := (yX9_countOf, 61)) 26 rfl
theorem mo_X9_take : am_mo yX9_take cX9_take 9 (some .int) 3 := ⟨am_w5 108 rfl, am_w1 11 rfl, by decide, by decide, by decide +kernel, by decide⟩
theorem ms_X9_take : Cond.instanceMethod yX9_take ∈ lw_tbl := am_w5 107 rfl
theorem mx_X9_take : Cond.selects (yX9_take).cls yX9_take yX9_take ∈ lw_tbl := am_wp (q := (yX9_take, 61)) 33 rfl
theorem mo_X9_isThere : am_mo yX9_isThere cX9_isThere 2 (some .boolean) 1 := ⟨am_w5 54 rfl, am_w1 11 rfl, by decide, by decide, by decide +kernel, by decide⟩
theorem ms_X9_isThere : Cond.instanceMethod yX9_isThere ∈ lw_tbl := am_w5 53 rfl
theorem mx_X9_isThere : Cond.selects (yX9_isThere).cls yX9_isThere yX9_isThere ∈ lw_tbl := am_wp (q := (yX9_isThere, 61)) 24 rfl
theorem mo_X9_isPerson : am_mo yX9_isPerson cX9_isPerson 2 (some .boolean) 1 := ⟨am_w5 74 rfl, am_w1 11 rfl, by decide, by decide, by decide +kernel, by decide⟩
theorem ms_X9_isPerson : Cond.instanceMethod yX9_isPerson ∈ lw_tbl := am_w5 73 rfl
theorem mx_X9_isPerson : Cond.selects (yX9_isPerson).cls yX9_isPerson yX9_isPerson ∈ lw_tbl := am_wp (q := (yX9_isPerson, 61)) 27 rfl
theorem mo_X9_person : am_mo yX9_person cX9_person 2 (some .int) 1 := ⟨am_w5 46 rfl, am_w1 11 rfl, by decide, by decide, by decide +kernel, by decide⟩
theorem ms_X9_person : Cond.instanceMethod yX9_person ∈ lw_tbl := am_w5 44 rfl
theorem mx_X9_person : Cond.selects (yX9_person).cls yX9_person yX9_person ∈ lw_tbl := am_w5 45 rfl
theorem mo_X9_personNow : am_mo yX9_personNow cX9_personNow 3 (some .int) 2 := ⟨am_w5 58 rfl, am_w1 11 rfl, by decide, by decide, by decide +kernel, by decide⟩
theorem ms_X9_personNow : Cond.instanceMethod yX9_personNow ∈ lw_tbl := am_w5 57 rfl
theorem mx_X9_personNow : Cond.selects (yX9_personNow).cls yX9_personNow yX9_personNow ∈ lw_tbl := am_wp (q := (yX9_personNow, 61)) 25 rfl
theorem mo_X9_about : am_mo yX9_about cX9_about 3 (some .int) 2 := ⟨am_w5 50 rfl, am_w1 11 rfl, by decide, by decide, by decide +kernel, by decide⟩
theorem ms_X9_about : Cond.instanceMethod yX9_about ∈ lw_tbl := am_w5 48 rfl
theorem mx_X9_about : Cond.selects (yX9_about).cls yX9_about yX9_about ∈ lw_tbl := am_w5 49 rfl
theorem mo_X9_as : am_mo yX9_as cX9_as 4 (some .int) 2 := ⟨am_w5 66 rfl, am_w1 11 rfl, by decide, by decide, by decide +kernel, by decide⟩
theorem ms_X9_as : Cond.instanceMethod yX9_as ∈ lw_tbl := am_w5 64 rfl
theorem mx_X9_as : Cond.selects (yX9_as).cls yX9_as yX9_as ∈ lw_tbl := am_w5 65 rfl
theorem mo_X9_isAct : am_mo yX9_isAct cX9_isAct 1 (some .boolean) 1 := ⟨am_w5 77 rfl, am_w1 11 rfl, by decide, by decide, by decide +kernel, by decide⟩
theorem ms_X9_isAct : Cond.static yX9_isAct ∈ lw_tbl := am_w5 76 rfl
theorem mo_X9_needs : am_mo yX9_needs cX9_needs 2 (some .int) 2 := ⟨am_w5 92 rfl, am_w1 11 rfl, by decide, by decide, by decide +kernel, by decide⟩
theorem ms_X9_needs : Cond.static yX9_needs ∈ lw_tbl := am_w5 91 rfl
theorem mo_X9_gets : am_mo yX9_gets cX9_gets 3 (some .int) 2 := ⟨am_w5 104 rfl, am_w1 11 rfl, by decide, by decide, by decide +kernel, by decide⟩
theorem ms_X9_gets : Cond.instanceMethod yX9_gets ∈ lw_tbl := am_w5 103 rfl
theorem mx_X9_gets : Cond.selects (yX9_gets).cls yX9_gets yX9_gets ∈ lw_tbl := am_wp (q := (yX9_gets, 61)) 32 rfl
theorem mo_X9_isCovered : am_mo yX9_isCovered cX9_isCovered 4 (some .boolean) 3 := ⟨am_w5 89 rfl, am_w1 11 rfl, by decide, by decide, by decide +kernel, by decide⟩
theorem ms_X9_isCovered : Cond.instanceMethod yX9_isCovered ∈ lw_tbl := am_w5 88 rfl
theorem mx_X9_isCovered : Cond.selects (yX9_isCovered).cls yX9_isCovered yX9_isCovered ∈ lw_tbl := am_wp (q := (yX9_isCovered, 61)) 30 rfl
theorem mo_X9_mayDo : am_mo yX9_mayDo cX9_mayDo 3 (some .boolean) 2 := ⟨am_w5 85 rfl, am_w1 11 rfl, by decide, by decide, by decide +kernel, by decide⟩
theorem ms_X9_mayDo : Cond.instanceMethod yX9_mayDo ∈ lw_tbl := am_w5 84 rfl
theorem mx_X9_mayDo : Cond.selects (yX9_mayDo).cls yX9_mayDo yX9_mayDo ∈ lw_tbl := am_wp (q := (yX9_mayDo, 61)) 29 rfl
theorem mo_X9_doAct : am_mo yX9_doAct cX9_doAct 4 none 3 := ⟨am_w5 100 rfl, am_w1 11 rfl, by decide, by decide, by decide +kernel, by decide⟩
theorem ms_X9_doAct : Cond.instanceMethod yX9_doAct ∈ lw_tbl := am_w5 99 rfl
theorem mx_X9_doAct : Cond.selects (yX9_doAct).cls yX9_doAct yX9_doAct ∈ lw_tbl := am_wp (q := (yX9_doAct, 61)) 31 rfl
theorem mo_X9_serve : am_mo yX9_serve cX9_serve 4 none 3 := ⟨am_w5 112 rfl, am_w1 11 rfl, by decide, by decide, by decide +kernel, by decide⟩
theorem ms_X9_serve : Cond.instanceMethod yX9_serve ∈ lw_tbl := am_w5 111 rfl
theorem mx_X9_serve : Cond.selects (yX9_serve).cls yX9_serve yX9_serve ∈ lw_tbl := am_wp (q := (yX9_serve, 61)) 34 rfl
theorem mo_X9_mayNow : am_mo yX9_mayNow cX9_mayNow 3 (some .boolean) 2 := ⟨am_w5 81 rfl, am_w1 11 rfl, by decide, by decide, by decide +kernel, by decide⟩
theorem ms_X9_mayNow : Cond.instanceMethod yX9_mayNow ∈ lw_tbl := am_w5 80 rfl
theorem mx_X9_mayNow : Cond.selects (yX9_mayNow).cls yX9_mayNow yX9_mayNow ∈ lw_tbl := am_wp (q := (yX9_mayNow, 61)) 28 rfl
theorem mo_X9_may : am_mo yX9_may cX9_may 3 (some .int) 2 := ⟨am_w5 70 rfl, am_w1 11 rfl, by decide, by decide, by decide +kernel, by decide⟩
theorem ms_X9_may : Cond.instanceMethod yX9_may ∈ lw_tbl := am_w5 68 rfl
theorem mx_X9_may : Cond.selects (yX9_may).cls yX9_may yX9_may ∈ lw_tbl := am_w5 69 rfl
theorem mo_X9_act : am_mo yX9_act cX9_act 3 (some .int) 2 := ⟨am_w5 96 rfl, am_w1 11 rfl, by decide, by decide, by decide +kernel, by decide⟩
theorem ms_X9_act : Cond.instanceMethod yX9_act ∈ lw_tbl := am_w5 94 rfl
theorem mx_X9_act : Cond.selects (yX9_act).cls yX9_act yX9_act ∈ lw_tbl := am_w5 95 rfl
theorem mo_X9_goWeek : am_mo yX9_goWeek cX9_goWeek 2 none 0 := ⟨am_w5 124 rfl, am_w1 11 rfl, by decide, by decide, by decide +kernel, by decide⟩
theorem ms_X9_goWeek : Cond.instanceMethod yX9_goWeek ∈ lw_tbl := am_w5 123 rfl
theorem mx_X9_goWeek : Cond.selects (yX9_goWeek).cls yX9_goWeek yX9_goWeek ∈ lw_tbl := am_wp (q := (yX9_goWeek, 61)) 36 rfl
theorem mo_X9_week : am_mo yX9_week cX9_week 1 (some .int) 0 := ⟨am_w5 120 rfl, am_w1 11 rfl, by decide, by decide, by decide +kernel, by decide⟩
theorem ms_X9_week : Cond.instanceMethod yX9_week ∈ lw_tbl := am_w5 118 rfl
theorem mx_X9_week : Cond.selects (yX9_week).cls yX9_week yX9_week ∈ lw_tbl := am_w5 119 rfl
theorem mo_X9_sell : am_mo yX9_sell cX9_sell 5 (some .int) 3 := ⟨am_w5 128 rfl, am_w1 11 rfl, by decide, by decide, by decide +kernel, by decide⟩
theorem ms_X9_sell : Cond.instanceMethod yX9_sell ∈ lw_tbl := am_w5 126 rfl
theorem mx_X9_sell : Cond.selects (yX9_sell).cls yX9_sell yX9_sell ∈ lw_tbl := am_w5 127 rfl
theorem mo_X9_leave : am_mo yX9_leave cX9_leave 5 (some .int) 2 := ⟨am_w5 132 rfl, am_w1 11 rfl, by decide, by decide, by decide +kernel, by decide⟩
theorem ms_X9_leave : Cond.instanceMethod yX9_leave ∈ lw_tbl := am_w5 130 rfl
theorem mx_X9_leave : Cond.selects (yX9_leave).cls yX9_leave yX9_leave ∈ lw_tbl := am_w5 131 rfl
theorem mo_X9_owesAll : am_mo yX9_owesAll cX9_owesAll 3 (some .int) 0 := ⟨am_w5 140 rfl, am_w1 11 rfl, by decide, by decide, by decide +kernel, by decide⟩
theorem ms_X9_owesAll : Cond.instanceMethod yX9_owesAll ∈ lw_tbl := am_w5 139 rfl
theorem mx_X9_owesAll : Cond.selects (yX9_owesAll).cls yX9_owesAll yX9_owesAll ∈ lw_tbl := am_wp (q := (yX9_owesAll, 61)) 37 rfl
theorem mo_X9_amnesty : am_mo yX9_amnesty cX9_amnesty 3 (some .int) 0 := ⟨am_w5 136 rfl, am_w1 11 rfl, by decide, by decide, by decide +kernel, by decide⟩
theorem ms_X9_amnesty : Cond.instanceMethod yX9_amnesty ∈ lw_tbl := am_w5 134 rfl
theorem mx_X9_amnesty : Cond.selects (yX9_amnesty).cls yX9_amnesty yX9_amnesty ∈ lw_tbl := am_w5 135 rfl
theorem mo_X9_copy : am_mo yX9_copy cX9_copy 4 none 2 := ⟨am_w5 152 rfl, am_w1 11 rfl, by decide, by decide, by decide +kernel, by decide⟩
theorem ms_X9_copy : Cond.instanceMethod yX9_copy ∈ lw_tbl := am_w5 151 rfl
theorem mx_X9_copy : Cond.selects (yX9_copy).cls yX9_copy yX9_copy ∈ lw_tbl := am_wp (q := (yX9_copy, 61)) 39 rfl
theorem mo_X9_keepRow : am_mo yX9_keepRow cX9_keepRow 3 none 1 := ⟨am_w5 156 rfl, am_w1 11 rfl, by decide, by decide, by decide +kernel, by decide⟩
theorem ms_X9_keepRow : Cond.instanceMethod yX9_keepRow ∈ lw_tbl := am_w5 155 rfl
theorem mx_X9_keepRow : Cond.selects (yX9_keepRow).cls yX9_keepRow yX9_keepRow ∈ lw_tbl := am_wp (q := (yX9_keepRow, 61)) 40 rfl
theorem mo_X9_backRow : am_mo yX9_backRow cX9_backRow 3 none 1 := ⟨am_w5 167 rfl, am_w1 11 rfl, by decide, by decide, by decide +kernel, by decide⟩
theorem ms_X9_backRow : Cond.instanceMethod yX9_backRow ∈ lw_tbl := am_w5 166 rfl
theorem mx_X9_backRow : Cond.selects (yX9_backRow).cls yX9_backRow yX9_backRow ∈ lw_tbl := am_wp (q := (yX9_backRow, 61)) 42 rfl
theorem mo_X9_actBy : am_mo yX9_actBy cX9_actBy 2 (some .int) 2 := ⟨am_w5 159 rfl, am_w1 11 rfl, by decide, by decide, by decide +kernel, by decide⟩
theorem ms_X9_actBy : Cond.static yX9_actBy ∈ lw_tbl := am_w5 158 rfl
theorem mo_X9_layGain : am_mo yX9_layGain cX9_layGain 7 none 2 := ⟨am_w5 148 rfl, am_w1 11 rfl, by decide, by decide, by decide +kernel, by decide⟩
theorem ms_X9_layGain : Cond.instanceMethod yX9_layGain ∈ lw_tbl := am_w5 147 rfl
theorem mx_X9_layGain : Cond.selects (yX9_layGain).cls yX9_layGain yX9_layGain ∈ lw_tbl := am_wp (q := (yX9_layGain, 61)) 38 rfl
theorem mo_X9_goRow : am_mo yX9_goRow cX9_goRow 5 (some .boolean) 3 := ⟨am_w5 163 rfl, am_w1 11 rfl, by decide, by decide, by decide +kernel, by decide⟩
theorem ms_X9_goRow : Cond.instanceMethod yX9_goRow ∈ lw_tbl := am_w5 162 rfl
theorem mx_X9_goRow : Cond.selects (yX9_goRow).cls yX9_goRow yX9_goRow ∈ lw_tbl := am_wp (q := (yX9_goRow, 61)) 41 rfl
theorem mo_X9_gain : am_mo yX9_gain cX9_gain 4 (some .int) 3 := ⟨am_w5 144 rfl, am_w1 11 rfl, by decide, by decide, by decide +kernel, by decide⟩
theorem ms_X9_gain : Cond.instanceMethod yX9_gain ∈ lw_tbl := am_w5 142 rfl
theorem mx_X9_gain : Cond.selects (yX9_gain).cls yX9_gain yX9_gain ∈ lw_tbl := am_w5 143 rfl
theorem mo_X9_soonBy : am_mo yX9_soonBy cX9_soonBy 6 (some .int) 3 := ⟨am_w5 183 rfl, am_w1 11 rfl, by decide, by decide, by decide +kernel, by decide⟩
theorem ms_X9_soonBy : Cond.instanceMethod yX9_soonBy ∈ lw_tbl := am_w5 182 rfl
theorem mx_X9_soonBy : Cond.selects (yX9_soonBy).cls yX9_soonBy yX9_soonBy ∈ lw_tbl := am_wp (q := (yX9_soonBy, 61)) 45 rfl
theorem mo_X9_soonNow : am_mo yX9_soonNow cX9_soonNow 6 (some .int) 2 := ⟨am_w5 179 rfl, am_w1 11 rfl, by decide, by decide, by decide +kernel, by decide⟩
theorem ms_X9_soonNow : Cond.instanceMethod yX9_soonNow ∈ lw_tbl := am_w5 178 rfl
theorem mx_X9_soonNow : Cond.selects (yX9_soonNow).cls yX9_soonNow yX9_soonNow ∈ lw_tbl := am_wp (q := (yX9_soonNow, 61)) 44 rfl
theorem mo_X9_soonTold : am_mo yX9_soonTold cX9_soonTold 3 (some .int) 2 := ⟨am_w5 175 rfl, am_w1 11 rfl, by decide, by decide, by decide +kernel, by decide⟩
theorem ms_X9_soonTold : Cond.instanceMethod yX9_soonTold ∈ lw_tbl := am_w5 174 rfl
theorem mx_X9_soonTold : Cond.selects (yX9_soonTold).cls yX9_soonTold yX9_soonTold ∈ lw_tbl := am_wp (q := (yX9_soonTold, 61)) 43 rfl
theorem mo_X9_soon : am_mo yX9_soon cX9_soon 3 (some .int) 2 := ⟨am_w5 171 rfl, am_w1 11 rfl, by decide, by decide, by decide +kernel, by decide⟩
theorem ms_X9_soon : Cond.instanceMethod yX9_soon ∈ lw_tbl := am_w5 169 rfl
theorem mx_X9_soon : Cond.selects (yX9_soon).cls yX9_soon yX9_soon ∈ lw_tbl := am_w5 170 rfl
theorem mo_X9_canAny : am_mo yX9_canAny cX9_canAny 5 (some .boolean) 2 := ⟨am_w5 195 rfl, am_w1 11 rfl, by decide, by decide, by decide +kernel, by decide⟩
theorem ms_X9_canAny : Cond.instanceMethod yX9_canAny ∈ lw_tbl := am_w5 194 rfl
theorem mx_X9_canAny : Cond.selects (yX9_canAny).cls yX9_canAny yX9_canAny ∈ lw_tbl := am_wp (q := (yX9_canAny, 61)) 47 rfl
theorem mo_X9_keptNow : am_mo yX9_keptNow cX9_keptNow 3 (some .int) 1 := ⟨am_w5 191 rfl, am_w1 11 rfl, by decide, by decide, by decide +kernel, by decide⟩
theorem ms_X9_keptNow : Cond.instanceMethod yX9_keptNow ∈ lw_tbl := am_w5 190 rfl
theorem mx_X9_keptNow : Cond.selects (yX9_keptNow).cls yX9_keptNow yX9_keptNow ∈ lw_tbl := am_wp (q := (yX9_keptNow, 61)) 46 rfl
theorem mo_X9_kept : am_mo yX9_kept cX9_kept 2 (some .int) 1 := ⟨am_w5 187 rfl, am_w1 11 rfl, by decide, by decide, by decide +kernel, by decide⟩
theorem ms_X9_kept : Cond.instanceMethod yX9_kept ∈ lw_tbl := am_w5 185 rfl
theorem mx_X9_kept : Cond.selects (yX9_kept).cls yX9_kept yX9_kept ∈ lw_tbl := am_w5 186 rfl
theorem mo_X9_book : am_mo yX9_book cX9_book 4 (some .int) 1 := ⟨am_w5 199 rfl, am_w1 11 rfl, by decide, by decide, by decide +kernel, by decide⟩
theorem ms_X9_book : Cond.instanceMethod yX9_book ∈ lw_tbl := am_w5 197 rfl
theorem mx_X9_book : Cond.selects (yX9_book).cls yX9_book yX9_book ∈ lw_tbl := am_w5 198 rfl
theorem mo_X9_next : am_mo yX9_next cX9_next 2 (some .int) 1 := ⟨am_w5 203 rfl, am_w1 11 rfl, by decide, by decide, by decide +kernel, by decide⟩
theorem ms_X9_next : Cond.instanceMethod yX9_next ∈ lw_tbl := am_w5 201 rfl
theorem mx_X9_next : Cond.selects (yX9_next).cls yX9_next yX9_next ∈ lw_tbl := am_w5 202 rfl
theorem mo_X9_layWays : am_mo yX9_layWays cX9_layWays 2 none 0 := ⟨am_w5 215 rfl, am_w1 11 rfl, by decide, by decide, by decide +kernel, by decide⟩
theorem ms_X9_layWays : Cond.instanceMethod yX9_layWays ∈ lw_tbl := am_w5 214 rfl
theorem mx_X9_layWays : Cond.selects (yX9_layWays).cls yX9_layWays yX9_layWays ∈ lw_tbl := am_wp (q := (yX9_layWays, 61)) 49 rfl
theorem mo_X9_tryRow : am_mo yX9_tryRow cX9_tryRow 3 (some .int) 1 := ⟨am_w5 219 rfl, am_w1 11 rfl, by decide, by decide, by decide +kernel, by decide⟩
theorem ms_X9_tryRow : Cond.instanceMethod yX9_tryRow ∈ lw_tbl := am_w5 218 rfl
theorem mx_X9_tryRow : Cond.selects (yX9_tryRow).cls yX9_tryRow yX9_tryRow ∈ lw_tbl := am_wp (q := (yX9_tryRow, 61)) 50 rfl
theorem mo_X9_mayBook : am_mo yX9_mayBook cX9_mayBook 1 (some .boolean) 0 := ⟨am_w5 211 rfl, am_w1 11 rfl, by decide, by decide, by decide +kernel, by decide⟩
theorem ms_X9_mayBook : Cond.instanceMethod yX9_mayBook ∈ lw_tbl := am_w5 210 rfl
theorem mx_X9_mayBook : Cond.selects (yX9_mayBook).cls yX9_mayBook yX9_mayBook ∈ lw_tbl := am_wp (q := (yX9_mayBook, 61)) 48 rfl
theorem mo_X9_ways : am_mo yX9_ways cX9_ways 1 (some .int) 0 := ⟨am_w5 207 rfl, am_w1 11 rfl, by decide, by decide, by decide +kernel, by decide⟩
theorem ms_X9_ways : Cond.instanceMethod yX9_ways ∈ lw_tbl := am_w5 205 rfl
theorem mx_X9_ways : Cond.selects (yX9_ways).cls yX9_ways yX9_ways ∈ lw_tbl := am_w5 206 rfl
theorem mo_X9_owed : am_mo yX9_owed cX9_owed 1 (some .int) 0 := ⟨am_w5 223 rfl, am_w1 11 rfl, by decide, by decide, by decide +kernel, by decide⟩
theorem ms_X9_owed : Cond.instanceMethod yX9_owed ∈ lw_tbl := am_w5 221 rfl
theorem mx_X9_owed : Cond.selects (yX9_owed).cls yX9_owed yX9_owed ∈ lw_tbl := am_w5 222 rfl
theorem mo_X9_save : am_mo yX9_save cX9_save 2 none 0 := ⟨am_w5 235 rfl, am_w1 11 rfl, by decide, by decide, by decide +kernel, by decide⟩
theorem ms_X9_save : Cond.instanceMethod yX9_save ∈ lw_tbl := am_w5 234 rfl
theorem mx_X9_save : Cond.selects (yX9_save).cls yX9_save yX9_save ∈ lw_tbl := am_wp (q := (yX9_save, 61)) 52 rfl
theorem mo_X9_back : am_mo yX9_back cX9_back 2 none 0 := ⟨am_w6 11 rfl, am_w1 11 rfl, by decide, by decide, by decide +kernel, by decide⟩
theorem ms_X9_back : Cond.instanceMethod yX9_back ∈ lw_tbl := am_w6 10 rfl
theorem mx_X9_back : Cond.selects (yX9_back).cls yX9_back yX9_back ∈ lw_tbl := am_wp (q := (yX9_back, 61)) 55 rfl
theorem mo_X9_draw : am_mo yX9_draw cX9_draw 2 (some .int) 1 := ⟨am_w5 239 rfl, am_w1 11 rfl, by decide, by decide, by decide +kernel, by decide⟩
theorem ms_X9_draw : Cond.instanceMethod yX9_draw ∈ lw_tbl := am_w5 238 rfl
theorem mx_X9_draw : Cond.selects (yX9_draw).cls yX9_draw yX9_draw ∈ lw_tbl := am_wp (q := (yX9_draw, 61)) 53 rfl
theorem mo_X9_gotAll : am_mo yX9_gotAll cX9_gotAll 3 (some .int) 0 := ⟨am_w6 7 rfl, am_w1 11 rfl, by decide, by decide, by decide +kernel, by decide⟩
theorem ms_X9_gotAll : Cond.instanceMethod yX9_gotAll ∈ lw_tbl := am_w6 6 rfl
theorem mx_X9_gotAll : Cond.selects (yX9_gotAll).cls yX9_gotAll yX9_gotAll ∈ lw_tbl := am_wp (q := (yX9_gotAll, 61)) 54 rfl
theorem mo_X9_yearsNow : am_mo yX9_yearsNow cX9_yearsNow 8 (some .int) 3 := ⟨am_w5 231 rfl, am_w1 11 rfl, by decide, by decide, by decide +kernel, by decide⟩
theorem ms_X9_yearsNow : Cond.instanceMethod yX9_yearsNow ∈ lw_tbl := am_w5 230 rfl
theorem mx_X9_yearsNow : Cond.selects (yX9_yearsNow).cls yX9_yearsNow yX9_yearsNow ∈ lw_tbl := am_wp (q := (yX9_yearsNow, 61)) 51 rfl
theorem mo_X9_years : am_mo yX9_years cX9_years 4 (some .int) 3 := ⟨am_w5 227 rfl, am_w1 11 rfl, by decide, by decide, by decide +kernel, by decide⟩
theorem ms_X9_years : Cond.instanceMethod yX9_years ∈ lw_tbl := am_w5 225 rfl
theorem mx_X9_years : Cond.selects (yX9_years).cls yX9_years yX9_years ∈ lw_tbl := am_w5 226 rfl
theorem mo_X9_image : am_mo yX9_image cX9_image 2 (some .int) 0 := ⟨am_w6 15 rfl, am_w1 11 rfl, by decide, by decide, by decide +kernel, by decide⟩
theorem ms_X9_image : Cond.instanceMethod yX9_image ∈ lw_tbl := am_w6 13 rfl
theorem mx_X9_image : Cond.selects (yX9_image).cls yX9_image yX9_image ∈ lw_tbl := am_w6 14 rfl
theorem mo_X9_restore : am_mo yX9_restore cX9_restore 2 (some .int) 0 := ⟨am_w6 19 rfl, am_w1 11 rfl, by decide, by decide, by decide +kernel, by decide⟩
theorem ms_X9_restore : Cond.instanceMethod yX9_restore ∈ lw_tbl := am_w6 17 rfl
theorem mx_X9_restore : Cond.selects (yX9_restore).cls yX9_restore yX9_restore ∈ lw_tbl := am_w6 18 rfl
theorem mo_X9_goneMany : am_mo yX9_goneMany cX9_goneMany 3 (some .int) 0 := ⟨am_w6 31 rfl, am_w1 11 rfl, by decide, by decide, by decide +kernel, by decide⟩
theorem ms_X9_goneMany : Cond.instanceMethod yX9_goneMany ∈ lw_tbl := am_w6 30 rfl
theorem mx_X9_goneMany : Cond.selects (yX9_goneMany).cls yX9_goneMany yX9_goneMany ∈ lw_tbl := am_wp (q := (yX9_goneMany, 61)) 57 rfl
theorem mo_X9_creditsAll : am_mo yX9_creditsAll cX9_creditsAll 3 (some .int) 0 := ⟨am_w6 35 rfl, am_w1 11 rfl, by decide, by decide, by decide +kernel, by decide⟩
theorem ms_X9_creditsAll : Cond.instanceMethod yX9_creditsAll ∈ lw_tbl := am_w6 34 rfl
theorem mx_X9_creditsAll : Cond.selects (yX9_creditsAll).cls yX9_creditsAll yX9_creditsAll ∈ lw_tbl := am_wp (q := (yX9_creditsAll, 61)) 58 rfl
theorem mo_X9_howMany : am_mo yX9_howMany cX9_howMany 2 (some .int) 1 := ⟨am_w6 27 rfl, am_w1 11 rfl, by decide, by decide, by decide +kernel, by decide⟩
theorem ms_X9_howMany : Cond.instanceMethod yX9_howMany ∈ lw_tbl := am_w6 26 rfl
theorem mx_X9_howMany : Cond.selects (yX9_howMany).cls yX9_howMany yX9_howMany ∈ lw_tbl := am_wp (q := (yX9_howMany, 61)) 56 rfl
theorem mo_X9_count : am_mo yX9_count cX9_count 2 (some .int) 1 := ⟨am_w6 23 rfl, am_w1 11 rfl, by decide, by decide, by decide +kernel, by decide⟩
theorem ms_X9_count : Cond.instanceMethod yX9_count ∈ lw_tbl := am_w6 21 rfl
theorem mx_X9_count : Cond.selects (yX9_count).cls yX9_count yX9_count ∈ lw_tbl := am_w6 22 rfl
theorem mo_X9_mix : am_mo yX9_mix cX9_mix 3 none 1 := ⟨am_w6 44 rfl, am_w1 11 rfl, by decide, by decide, by decide +kernel, by decide⟩
theorem ms_X9_mix : Cond.instanceMethod yX9_mix ∈ lw_tbl := am_w6 43 rfl
theorem mx_X9_mix : Cond.selects (yX9_mix).cls yX9_mix yX9_mix ∈ lw_tbl := am_wp (q := (yX9_mix, 61)) 59 rfl
theorem mo_X9_digest : am_mo yX9_digest cX9_digest 3 (some .long) 0 := ⟨am_w6 39 rfl, am_w1 11 rfl, by decide, by decide, by decide +kernel, by decide⟩
theorem ms_X9_digest : Cond.instanceMethod yX9_digest ∈ lw_tbl := am_w6 37 rfl
theorem mx_X9_digest : Cond.selects (yX9_digest).cls yX9_digest yX9_digest ∈ lw_tbl := am_w6 38 rfl
def am_mt : List am_Me := [(yX0_copy, (cX0_copy, (3, none))), (yX0_hasRoom, (cX0_hasRoom, (1, (some .boolean)))), (yX0_give, (cX0_give, (5, none))), (yX0_howMany, (cX0_howMany, (5, (some .int)))), (yX0_oldestWeek, (cX0_oldestWeek, (3, (some .int)))), (yX0_dropOldest, (cX0_dropOldest, (6, none))), (yX0_dropAheadOf, (cX0_dropAheadOf, (4, none))), (yX0_moveTo, (cX0_moveTo, (4, (some .int)))), (yX0_isOf, (cX0_isOf, (2, (some .boolean)))), (yX1_start, (cX1_start, (6, none))), (yX1_tryFrom, (cX1_tryFrom, (7, none))), (yX1_mostStill, (cX1_mostStill, (12, (some .int)))), (yX2_isNumber, (cX2_isNumber, (1, (some .boolean)))), (yX2_numbered, (cX2_numbered, (1, (some (.object "ServedAhead$Kind"))))), (yX2_isA, (cX2_isA, (2, (some .boolean)))), (yX2_needs, (cX2_needs, (2, (some .int)))), (yX2_gets, (cX2_gets, (2, (some .int)))), (yX2_owesFor, (cX2_owesFor, (2, (some .int)))), (yX3_copy, (cX3_copy, (3, none))), (yX3_termOf, (cX3_termOf, (2, (some .int)))), (yX3_worthOf, (cX3_worthOf, (2, (some .int)))), (yX3_sortsOf, (cX3_sortsOf, (2, (some .int)))), (yX3_allTerms, (cX3_allTerms, (3, (some .int)))), (yX3_firstThatCounts, (cX3_firstThatCounts, (2, (some .int)))), (yX4_close, (cX4_close, (1, none))), (yX4_open, (cX4_open, (3, none))), (yX4_hasRoom, (cX4_hasRoom, (1, (some .boolean)))), (yX4_write, (cX4_write, (2, none))), (yX4_walk, (cX4_walk, (2, none))), (yX4_reckon, (cX4_reckon, (2, none))), (yX4_walkFrom, (cX4_walkFrom, (7, none))), (yX4_goOn, (cX4_goOn, (5, none))), (yX5_hasRoom, (cX5_hasRoom, (1, (some .boolean)))), (yX5_write, (cX5_write, (2, none))), (yX5_at, (cX5_at, (2, (some .int)))), (yX5_firstFault, (cX5_firstFault, (2, (some .int)))), (yX5_isLaw, (cX5_isLaw, (1, (some .boolean)))), (yX5_takes, (cX5_takes, (3, (some .boolean)))), (yX5_takesTerm, (cX5_takesTerm, (2, (some .boolean)))), (yX5_takesWorth, (cX5_takesWorth, (2, (some .boolean)))), (yX5_takesColon, (cX5_takesColon, (2, (some .boolean)))), (yX5_takesSort, (cX5_takesSort, (2, (some .boolean)))), (yX5_takesEndOfDeed, (cX5_takesEndOfDeed, (3, (some .boolean)))), (yX5_takesLapse, (cX5_takesLapse, (2, (some .boolean)))), (yX6_begin, (cX6_begin, (2, none))), (yX6_copy, (cX6_copy, (2, none))), (yX6_told, (cX6_told, (2, (some .int)))), (yX6_enter, (cX6_enter, (3, none))), (yX6_dropLapsed, (cX6_dropLapsed, (3, none))), (yX6_isCovered, (cX6_isCovered, (5, (some .boolean)))), (yX6_isFreeTo, (cX6_isFreeTo, (4, (some .boolean)))), (yX6_does, (cX6_does, (4, none))), (yX6_earns, (cX6_earns, (4, none))), (yX6_getsBy, (cX6_getsBy, (3, (some .int)))), (yX6_owesAfter, (cX6_owesAfter, (3, (some .int)))), (yX7_copy, (cX7_copy, (3, none))), (yX7_hasRoom, (cX7_hasRoom, (1, (some .boolean)))), (yX7_isKnown, (cX7_isKnown, (2, (some .boolean)))), (yX7_isHere, (cX7_isHere, (2, (some .boolean)))), (yX7_one, (cX7_one, (2, (some (.object "ServedAhead$Person"))))), (yX7_welcome, (cX7_welcome, (3, (some .int)))), (yX7_passWeek, (cX7_passWeek, (3, none))), (yX7_dropLapsed, (cX7_dropLapsed, (3, none))), (yX7_forgive, (cX7_forgive, (3, (some .int)))), (yX7_someoneCovered, (cX7_someoneCovered, (7, (some .boolean)))), (yX7_allGone, (cX7_allGone, (3, (some .int)))), (yX7_allOwed, (cX7_allOwed, (3, (some .int)))), (yX7_allGot, (cX7_allGot, (3, (some .int)))), (yX7_allCredits, (cX7_allCredits, (3, (some .int)))), (yX7_live, (cX7_live, (6, none))), (yX7_actByDraw, (cX7_actByDraw, (4, none))), (yX7_drawn, (cX7_drawn, (1, (some .int)))), (yX8_letter, (cX8_letter, (2, (some .int)))), (yX8_blank, (cX8_blank, (2, (some .int)))), (yX8_fault, (cX8_fault, (1, (some .int)))), (yX8_law, (cX8_law, (1, (some .int)))), (yX8_deed, (cX8_deed, (3, (some .int)))), (yX8_person, (cX8_person, (2, (some .int)))), (yX8_about, (cX8_about, (3, (some .int)))), (yX8_as, (cX8_as, (3, (some .int)))), (yX8_may, (cX8_may, (3, (some .int)))), (yX8_act, (cX8_act, (4, (some .int)))), (yX8_week, (cX8_week, (1, (some .int)))), (yX8_sell, (cX8_sell, (7, (some .int)))), (yX8_leave, (cX8_leave, (4, (some .int)))), (yX8_amnesty, (cX8_amnesty, (1, (some .int)))), (yX8_gain, (cX8_gain, (4, (some .int)))), (yX8_soon, (cX8_soon, (6, (some .int)))), (yX8_kept, (cX8_kept, (3, (some .int)))), (yX8_book, (cX8_book, (3, (some .int)))), (yX8_next, (cX8_next, (2, (some .int)))), (yX8_ways, (cX8_ways, (1, (some .int)))), (yX8_owed, (cX8_owed, (1, (some .int)))), (yX8_years, (cX8_years, (4, (some .int)))), (yX8_image, (cX8_image, (1, (some .int)))), (yX8_restore, (cX8_restore, (1, (some .int)))), (yX8_count, (cX8_count, (2, (some .int)))), (yX8_digest, (cX8_digest, (4, (some .long)))), (yX8_withDeed, (cX8_withDeed, (7, (some .long)))), (yX8_withPerson, (cX8_withPerson, (7, (some .long)))), (yX8_weeksOfServing, (cX8_weeksOfServing, (6, (some .int)))), (yX8_arePair, (cX8_arePair, (3, (some .boolean)))), (yX8_isDeed, (cX8_isDeed, (1, (some .boolean)))), (yX8_isServing, (cX8_isServing, (1, (some .boolean)))), (yX8_isCoveredDeed, (cX8_isCoveredDeed, (1, (some .boolean)))), (yX8_isBareDeed, (cX8_isBareDeed, (1, (some .boolean)))), (yX8_isAct, (cX8_isAct, (1, (some .boolean)))), (yX8_actAt, (cX8_actAt, (1, (some .int)))), (yX9_within, (cX9_within, (3, (some .boolean)))), (yX9_has, (cX9_has, (2, (some .boolean)))), (yX9_letter, (cX9_letter, (2, (some .int)))), (yX9_blank, (cX9_blank, (2, (some .int)))), (yX9_nextState, (cX9_nextState, (4, (some .int)))), (yX9_sortState, (cX9_sortState, (4, (some .int)))), (yX9_readLaw, (cX9_readLaw, (5, none))), (yX9_fault, (cX9_fault, (1, (some .int)))), (yX9_law, (cX9_law, (3, (some .int)))), (yX9_isDeed, (cX9_isDeed, (1, (some .boolean)))), (yX9_deedNow, (cX9_deedNow, (3, (some .int)))), (yX9_deed, (cX9_deed, (3, (some .int)))), (yX9_lapseOf, (cX9_lapseOf, (6, none))), (yX9_lapseAll, (cX9_lapseAll, (2, none))), (yX9_give, (cX9_give, (4, (some .boolean)))), (yX9_countOf, (cX9_countOf, (5, (some .int)))), (yX9_take, (cX9_take, (9, (some .int)))), (yX9_isThere, (cX9_isThere, (2, (some .boolean)))), (yX9_isPerson, (cX9_isPerson, (2, (some .boolean)))), (yX9_person, (cX9_person, (2, (some .int)))), (yX9_personNow, (cX9_personNow, (3, (some .int)))), (yX9_about, (cX9_about, (3, (some .int)))), (yX9_as, (cX9_as, (4, (some .int)))), (yX9_isAct, (cX9_isAct, (1, (some .boolean)))), (yX9_needs, (cX9_needs, (2, (some .int)))), (yX9_gets, (cX9_gets, (3, (some .int)))), (yX9_isCovered, (cX9_isCovered, (4, (some .boolean)))), (yX9_mayDo, (cX9_mayDo, (3, (some .boolean)))), (yX9_doAct, (cX9_doAct, (4, none))), (yX9_serve, (cX9_serve, (4, none))), (yX9_mayNow, (cX9_mayNow, (3, (some .boolean)))), (yX9_may, (cX9_may, (3, (some .int)))), (yX9_act, (cX9_act, (3, (some .int)))), (yX9_goWeek, (cX9_goWeek, (2, none))), (yX9_week, (cX9_week, (1, (some .int)))), (yX9_sell, (cX9_sell, (5, (some .int)))), (yX9_leave, (cX9_leave, (5, (some .int)))), (yX9_owesAll, (cX9_owesAll, (3, (some .int)))), (yX9_amnesty, (cX9_amnesty, (3, (some .int)))), (yX9_copy, (cX9_copy, (4, none))), (yX9_keepRow, (cX9_keepRow, (3, none))), (yX9_backRow, (cX9_backRow, (3, none))), (yX9_actBy, (cX9_actBy, (2, (some .int)))), (yX9_layGain, (cX9_layGain, (7, none))), (yX9_goRow, (cX9_goRow, (5, (some .boolean)))), (yX9_gain, (cX9_gain, (4, (some .int)))), (yX9_soonBy, (cX9_soonBy, (6, (some .int)))), (yX9_soonNow, (cX9_soonNow, (6, (some .int)))), (yX9_soonTold, (cX9_soonTold, (3, (some .int)))), (yX9_soon, (cX9_soon, (3, (some .int)))), (yX9_canAny, (cX9_canAny, (5, (some .boolean)))), (yX9_keptNow, (cX9_keptNow, (3, (some .int)))), (yX9_kept, (cX9_kept, (2, (some .int)))), (yX9_book, (cX9_book, (4, (some .int)))), (yX9_next, (cX9_next, (2, (some .int)))), (yX9_layWays, (cX9_layWays, (2, none))), (yX9_tryRow, (cX9_tryRow, (3, (some .int)))), (yX9_mayBook, (cX9_mayBook, (1, (some .boolean)))), (yX9_ways, (cX9_ways, (1, (some .int)))), (yX9_owed, (cX9_owed, (1, (some .int)))), (yX9_save, (cX9_save, (2, none))), (yX9_back, (cX9_back, (2, none))), (yX9_draw, (cX9_draw, (2, (some .int)))), (yX9_gotAll, (cX9_gotAll, (3, (some .int)))), (yX9_yearsNow, (cX9_yearsNow, (8, (some .int)))), (yX9_years, (cX9_years, (4, (some .int)))), (yX9_image, (cX9_image, (2, (some .int)))), (yX9_restore, (cX9_restore, (2, (some .int)))), (yX9_goneMany, (cX9_goneMany, (3, (some .int)))), (yX9_creditsAll, (cX9_creditsAll, (3, (some .int)))), (yX9_howMany, (cX9_howMany, (2, (some .int)))), (yX9_count, (cX9_count, (2, (some .int)))), (yX9_mix, (cX9_mix, (3, none))), (yX9_digest, (cX9_digest, (3, (some .long))))]
def am_T (j : Nat) : am_Me := am_mt.getD j (yX0_copy, (cX0_copy, (3, none)))
theorem am_T_pl (j : Nat) : plainName (am_T j).1.cls = true := by
  have h1 : ∀ q ∈ am_mt, plainName q.1.cls = true := by decide +kernel
  unfold am_T
  rw [List.getD_eq_getElem?_getD]
  cases hq : am_mt[j]? with
  | none => decide +kernel
  | some q => exact h1 q (List.mem_of_getElem? hq)
