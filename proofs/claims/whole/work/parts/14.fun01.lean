def b_X0_copy_34 (n : Nat) (i0 : Nat) (i1 : Nat) (x : am_X) : Option (am_X) := some (sF x 5 1 i0 (xF x 5 1 i1))
theorem tb_X0_copy_34 {n : Nat} {d : Nat} {z : am_X} (hd : 0 ≤ d) (i0 : Nat) (i1 : Nat) (x : am_X) : am_To d (am_tab pX0_copy) 34 ([(0, am_R 5 i0), (1, am_R 5 i1)], ([], (x, z))) (cvV0 z) (b_X0_copy_34 n i0 i1 x) := by
  unfold b_X0_copy_34
  refine to_go 4 (pc' := 42) (a' := ([(0, am_R 5 i0), (1, am_R 5 i1)], ([], ((sF x 5 1 i0 (xF x 5 1 i1)), z)))) rfl ?_
  exact to_rt 1 rfl
def b_X0_copy_2 (n : Nat) : Nat → Nat → Nat → Int32 → am_X → Option (am_X)
  | 0, _, _, _, _ => none
  | k + 1, i0, i1, v2, x => if (xF x 5 1 i1) ≤ v2 then (b_X0_copy_34 n i0 i1 x) else (if (12 : Int32) ≤ v2 then (b_X0_copy_34 n i0 i1 x) else (if am_inB v2 12 = true then (if am_inB v2 12 = true then (b_X0_copy_2 n k i0 i1 (v2 + (1 : Int32)) (sA x 12 i0 (Int32.toNatClampNeg v2) (xA x 12 i1 (Int32.toNatClampNeg v2)))) else none) else none))
theorem tb_X0_copy_2 {n : Nat} {d : Nat} {z : am_X} (hd : 0 ≤ d) : ∀ (k : Nat) (i0 : Nat) (i1 : Nat) (v2 : Int32) (x : am_X), am_To d (am_tab pX0_copy) 2 ([(0, am_R 5 i0), (1, am_R 5 i1), (2, am_I v2)], ([], (x, z))) (cvV0 z) (b_X0_copy_2 n k i0 i1 v2 x) := by
  intro k
  induction k with
  | zero =>
    intro i0 i1 v2 x
    exact to_0
  | succ k ih =>
    intro i0 i1 v2 x
    rw [b_X0_copy_2]
    refine to_if 4 (c := (xF x 5 1 i1) ≤ v2) (p1 := 34) (p2 := 10) (a' := ([(0, am_R 5 i0), (1, am_R 5 i1), (2, am_I v2)], ([], (x, z)))) rfl (fun c_1 => ?_) (fun c_1 => ?_)
    · refine to_fg [0, 1] (lv' := [(0, am_R 5 i0), (1, am_R 5 i1)]) rfl ?_
      exact tb_X0_copy_34 (by omega)  i0 i1 x
    · refine to_if 3 (c := (12 : Int32) ≤ v2) (p1 := 34) (p2 := 16) (a' := ([(0, am_R 5 i0), (1, am_R 5 i1), (2, am_I v2)], ([], (x, z)))) rfl (fun c_2 => ?_) (fun c_2 => ?_)
      · refine to_fg [0, 1] (lv' := [(0, am_R 5 i0), (1, am_R 5 i1)]) rfl ?_
        exact tb_X0_copy_34 (by omega)  i0 i1 x
      · refine to_go 4 (pc' := 22) (a' := ([(0, am_R 5 i0), (1, am_R 5 i1), (2, am_I v2)], ([am_R 5 i1, am_I v2, am_R 12 i0], (x, z)))) rfl ?_
        refine to_gd 2 26 (c := am_inB v2 12 = true) (pc' := 27) (a' := ([(0, am_R 5 i0), (1, am_R 5 i1), (2, am_I v2)], ([am_I (xA x 12 i1 (Int32.toNatClampNeg v2)), am_I v2, am_R 12 i0], (x, z)))) rfl rfl (fun c_3 => ?_)
        refine to_gd 0 27 (c := am_inB v2 12 = true) (pc' := 28) (a' := ([(0, am_R 5 i0), (1, am_R 5 i1), (2, am_I v2)], ([], ((sA x 12 i0 (Int32.toNatClampNeg v2) (xA x 12 i1 (Int32.toNatClampNeg v2))), z)))) rfl rfl (fun c_4 => ?_)
        refine to_go 2 (pc' := 2) (a' := ([(2, am_I (v2 + (1 : Int32))), (0, am_R 5 i0), (1, am_R 5 i1)], ([], ((sA x 12 i0 (Int32.toNatClampNeg v2) (xA x 12 i1 (Int32.toNatClampNeg v2))), z)))) rfl ?_
        refine to_fg [1, 2, 0] (lv' := [(0, am_R 5 i0), (1, am_R 5 i1), (2, am_I (v2 + (1 : Int32)))]) rfl ?_
        exact ih i0 i1 (v2 + (1 : Int32)) (sA x 12 i0 (Int32.toNatClampNeg v2) (xA x 12 i1 (Int32.toNatClampNeg v2)))
def f_X0_copy (n : Nat) (i0 : Nat) (i1 : Nat) (x : am_X) : Option (am_X) := b_X0_copy_2 n n i0 i1 (0 : Int32) x
theorem t_X0_copy {n : Nat} {d : Nat} {i0 : Nat} {i1 : Nat} {x z : am_X} {q : am_X} (hd : 1 ≤ d) (h : f_X0_copy n i0 i1 x = some q) : am_Ev am_PR d 0 [am_R 5 i0, am_R 5 i1] (x, z) (cvV0 z q) := by
  obtain ⟨d, rfl⟩ : ∃ e, d = e + 1 := ⟨d - 1, by omega⟩
  refine to_ev (P := (am_tab pX0_copy)) rfl (lv := [(0, am_R 5 i0), (1, am_R 5 i1)]) rfl ?_ q h
  unfold f_X0_copy
  refine to_go 2 (pc' := 2) (a' := ([(2, am_I (0 : Int32)), (0, am_R 5 i0), (1, am_R 5 i1)], ([], (x, z)))) rfl ?_
  refine to_fg [1, 2, 0] (lv' := [(0, am_R 5 i0), (1, am_R 5 i1), (2, am_I (0 : Int32))]) rfl ?_
  exact tb_X0_copy_2 (by omega)  n i0 i1 (0 : Int32) x
def f_X0_hasRoom (n : Nat) (i0 : Nat) (x : am_X) : Option (Int32 × am_X) := if (12 : Int32) ≤ (xF x 5 1 i0) then (some ((0 : Int32), x)) else (some ((1 : Int32), x))
theorem t_X0_hasRoom {n : Nat} {d : Nat} {i0 : Nat} {x z : am_X} {q : Int32 × am_X} (hd : 1 ≤ d) (h : f_X0_hasRoom n i0 x = some q) : am_Ev am_PR d 1 [am_R 5 i0] (x, z) (cvI0 z q) := by
  obtain ⟨d, rfl⟩ : ∃ e, d = e + 1 := ⟨d - 1, by omega⟩
  refine to_ev (P := (am_tab pX0_hasRoom)) rfl (lv := [(0, am_R 5 i0)]) rfl ?_ q h
  unfold f_X0_hasRoom
  refine to_if 4 (c := (12 : Int32) ≤ (xF x 5 1 i0)) (p1 := 13) (p2 := 9) (a' := ([(0, am_R 5 i0)], ([], (x, z)))) rfl (fun c_1 => ?_) (fun c_1 => ?_)
  · exact to_rk 1 14 (c := am_bz (0 : Int32) = true) (r := ((0 : Int32), x)) rfl rfl (by decide)
  · exact to_rk 2 14 (c := am_bz (1 : Int32) = true) (r := ((1 : Int32), x)) rfl rfl (by decide)
def b_X0_give_69 (n : Nat) (i0 : Nat) (v3 : Int32) (v4 : Int32) (x : am_X) : Option (am_X) := if am_inB v4 12 = true then (some (sF (sA x 12 i0 (Int32.toNatClampNeg v4) v3) 5 1 i0 ((xF x 5 1 i0) + (1 : Int32)))) else none
theorem tb_X0_give_69 {n : Nat} {d : Nat} {z : am_X} (hd : 0 ≤ d) (i0 : Nat) (v3 : Int32) (v4 : Int32) (x : am_X) : am_To d (am_tab pX0_give) 69 ([(0, am_R 5 i0), (3, am_I v3), (4, am_I v4)], ([], (x, z))) (cvV0 z) (b_X0_give_69 n i0 v3 v4 x) := by
  unfold b_X0_give_69
  refine to_go 4 (pc' := 76) (a' := ([(0, am_R 5 i0), (3, am_I v3), (4, am_I v4)], ([am_I v3, am_I v4, am_R 12 i0], (x, z)))) rfl ?_
  refine to_gd 0 76 (c := am_inB v4 12 = true) (pc' := 77) (a' := ([(0, am_R 5 i0), (3, am_I v3), (4, am_I v4)], ([], ((sA x 12 i0 (Int32.toNatClampNeg v4) v3), z)))) rfl rfl (fun c_1 => ?_)
  refine to_go 4 (pc' := 83) (a' := ([(0, am_R 5 i0), (3, am_I v3), (4, am_I v4)], ([am_I (1 : Int32), am_I (xF x 5 1 i0), am_R 5 i0], ((sA x 12 i0 (Int32.toNatClampNeg v4) v3), z)))) rfl ?_
  exact to_rt 3 rfl
def b_X0_give_29 (n : Nat) : Nat → Nat → Int32 → Int32 → am_X → Option (am_X)
  | 0, _, _, _, _ => none
  | k + 1, i0, v3, v4, x => if v4 ≤ 0 then (b_X0_give_69 n i0 v3 v4 x) else (if am_inB (v4 - (1 : Int32)) 12 = true then (if (xA x 12 i0 (Int32.toNatClampNeg (v4 - (1 : Int32)))) ≤ v3 then (b_X0_give_69 n i0 v3 v4 x) else (if am_inB (v4 - (1 : Int32)) 12 = true then (if am_inB v4 12 = true then (b_X0_give_29 n k i0 v3 (v4 + (-1 : Int32)) (sA x 12 i0 (Int32.toNatClampNeg v4) (xA x 12 i0 (Int32.toNatClampNeg (v4 - (1 : Int32)))))) else none) else none)) else none)
theorem tb_X0_give_29 {n : Nat} {d : Nat} {z : am_X} (hd : 0 ≤ d) : ∀ (k : Nat) (i0 : Nat) (v3 : Int32) (v4 : Int32) (x : am_X), am_To d (am_tab pX0_give) 29 ([(0, am_R 5 i0), (3, am_I v3), (4, am_I v4)], ([], (x, z))) (cvV0 z) (b_X0_give_29 n k i0 v3 v4 x) := by
  intro k
  induction k with
  | zero =>
    intro i0 v3 v4 x
    exact to_0
  | succ k ih =>
    intro i0 v3 v4 x
    rw [b_X0_give_29]
    refine to_if 2 (c := v4 ≤ 0) (p1 := 69) (p2 := 34) (a' := ([(0, am_R 5 i0), (3, am_I v3), (4, am_I v4)], ([], (x, z)))) rfl (fun c_1 => ?_) (fun c_1 => ?_)
    · refine to_fg [0, 1, 2] (lv' := [(0, am_R 5 i0), (3, am_I v3), (4, am_I v4)]) rfl ?_
      exact tb_X0_give_69 (by omega)  i0 v3 v4 x
    · refine to_go 4 (pc' := 41) (a' := ([(0, am_R 5 i0), (3, am_I v3), (4, am_I v4)], ([am_I (1 : Int32), am_I v4, am_R 12 i0], (x, z)))) rfl ?_
      refine to_gd 1 42 (c := am_inB (v4 - (1 : Int32)) 12 = true) (pc' := 43) (a' := ([(0, am_R 5 i0), (3, am_I v3), (4, am_I v4)], ([am_I (xA x 12 i0 (Int32.toNatClampNeg (v4 - (1 : Int32))))], (x, z)))) rfl rfl (fun c_2 => ?_)
      refine to_if 2 (c := (xA x 12 i0 (Int32.toNatClampNeg (v4 - (1 : Int32)))) ≤ v3) (p1 := 69) (p2 := 47) (a' := ([(0, am_R 5 i0), (3, am_I v3), (4, am_I v4)], ([], (x, z)))) rfl (fun c_3 => ?_) (fun c_3 => ?_)
      · refine to_fg [0, 1, 2] (lv' := [(0, am_R 5 i0), (3, am_I v3), (4, am_I v4)]) rfl ?_
        exact tb_X0_give_69 (by omega)  i0 v3 v4 x
      · refine to_go 4 (pc' := 54) (a' := ([(0, am_R 5 i0), (3, am_I v3), (4, am_I v4)], ([am_R 5 i0, am_I v4, am_R 12 i0], (x, z)))) rfl ?_
        refine to_go 4 (pc' := 61) (a' := ([(0, am_R 5 i0), (3, am_I v3), (4, am_I v4)], ([am_I (v4 - (1 : Int32)), am_R 12 i0, am_I v4, am_R 12 i0], (x, z)))) rfl ?_
        refine to_gd 0 61 (c := am_inB (v4 - (1 : Int32)) 12 = true) (pc' := 62) (a' := ([(0, am_R 5 i0), (3, am_I v3), (4, am_I v4)], ([am_I (xA x 12 i0 (Int32.toNatClampNeg (v4 - (1 : Int32)))), am_I v4, am_R 12 i0], (x, z)))) rfl rfl (fun c_4 => ?_)
        refine to_gd 0 62 (c := am_inB v4 12 = true) (pc' := 63) (a' := ([(0, am_R 5 i0), (3, am_I v3), (4, am_I v4)], ([], ((sA x 12 i0 (Int32.toNatClampNeg v4) (xA x 12 i0 (Int32.toNatClampNeg (v4 - (1 : Int32))))), z)))) rfl rfl (fun c_5 => ?_)
        refine to_go 2 (pc' := 29) (a' := ([(4, am_I (v4 + (-1 : Int32))), (0, am_R 5 i0), (3, am_I v3)], ([], ((sA x 12 i0 (Int32.toNatClampNeg v4) (xA x 12 i0 (Int32.toNatClampNeg (v4 - (1 : Int32))))), z)))) rfl ?_
        refine to_fg [1, 2, 0] (lv' := [(0, am_R 5 i0), (3, am_I v3), (4, am_I (v4 + (-1 : Int32)))]) rfl ?_
        exact ih i0 v3 (v4 + (-1 : Int32)) (sA x 12 i0 (Int32.toNatClampNeg v4) (xA x 12 i0 (Int32.toNatClampNeg (v4 - (1 : Int32)))))
def f_X0_give (n : Nat) (i0 : Nat) (v1 : Int32) (v2 : Int32) (x : am_X) : Option (am_X) := if (xF x 5 1 i0) < 0 then (some x) else (if (xF x 5 1 i0) < (12 : Int32) then (b_X0_give_29 n n i0 ((v2 * (3 : Int32)) + v1) (xF x 5 1 i0) x) else (some x))
theorem t_X0_give {n : Nat} {d : Nat} {i0 : Nat} {v1 : Int32} {v2 : Int32} {x z : am_X} {q : am_X} (hd : 1 ≤ d) (h : f_X0_give n i0 v1 v2 x = some q) : am_Ev am_PR d 2 [am_R 5 i0, am_I v1, am_I v2] (x, z) (cvV0 z q) := by
  obtain ⟨d, rfl⟩ : ∃ e, d = e + 1 := ⟨d - 1, by omega⟩
  refine to_ev (P := (am_tab pX0_give)) rfl (lv := [(0, am_R 5 i0), (1, am_I v1), (2, am_I v2)]) rfl ?_ q h
  unfold f_X0_give
  refine to_if 3 (c := (xF x 5 1 i0) < 0) (p1 := 16) (p2 := 7) (a' := ([(0, am_R 5 i0), (1, am_I v1), (2, am_I v2)], ([], (x, z)))) rfl (fun c_1 => ?_) (fun c_1 => ?_)
  · exact to_rt 1 rfl
  · refine to_if 4 (c := (xF x 5 1 i0) < (12 : Int32)) (p1 := 17) (p2 := 16) (a' := ([(0, am_R 5 i0), (1, am_I v1), (2, am_I v2)], ([], (x, z)))) rfl (fun c_2 => ?_) (fun c_2 => ?_)
    · refine to_go 4 (pc' := 21) (a' := ([(0, am_R 5 i0), (1, am_I v1), (2, am_I v2)], ([am_I v1, am_I (v2 * (3 : Int32))], (x, z)))) rfl ?_
      refine to_go 4 (pc' := 27) (a' := ([(3, am_I ((v2 * (3 : Int32)) + v1)), (0, am_R 5 i0), (1, am_I v1), (2, am_I v2)], ([am_I (xF x 5 1 i0)], (x, z)))) rfl ?_
      refine to_go 1 (pc' := 29) (a' := ([(4, am_I (xF x 5 1 i0)), (3, am_I ((v2 * (3 : Int32)) + v1)), (0, am_R 5 i0), (1, am_I v1), (2, am_I v2)], ([], (x, z)))) rfl ?_
      refine to_fg [2, 1, 0] (lv' := [(0, am_R 5 i0), (3, am_I ((v2 * (3 : Int32)) + v1)), (4, am_I (xF x 5 1 i0))]) rfl ?_
      exact tb_X0_give_29 (by omega)  n i0 ((v2 * (3 : Int32)) + v1) (xF x 5 1 i0) x
    · exact to_rt 1 rfl
def f_X0_isOf (n : Nat) (v0 : Int32) (v1 : Int32) (x : am_X) : Option (Int32 × am_X) := if (v1 &&& ((1 : Int32) <<< ((v0 - v0 / (3 : Int32) * (3 : Int32)) &&& 31))) = 0 then (some ((0 : Int32), x)) else (some ((1 : Int32), x))
theorem t_X0_isOf {n : Nat} {d : Nat} {v0 : Int32} {v1 : Int32} {x z : am_X} {q : Int32 × am_X} (hd : 1 ≤ d) (h : f_X0_isOf n v0 v1 x = some q) : am_Ev am_PR d 8 [am_I v0, am_I v1] (x, z) (cvI0 z q) := by
  obtain ⟨d, rfl⟩ : ∃ e, d = e + 1 := ⟨d - 1, by omega⟩
  refine to_ev (P := (am_tab pX0_isOf)) rfl (lv := [(0, am_I v0), (1, am_I v1)]) rfl ?_ q h
  unfold f_X0_isOf
  refine to_go 4 (pc' := 4) (a' := ([(0, am_I v0), (1, am_I v1)], ([am_I (3 : Int32), am_I v0, am_I (1 : Int32), am_I v1], (x, z)))) rfl ?_
  refine to_gk 0 4 (c := ¬ (3 : Int32) = 0) (pc' := 5) (a' := ([(0, am_I v0), (1, am_I v1)], ([am_I (v0 - v0 / (3 : Int32) * (3 : Int32)), am_I (1 : Int32), am_I v1], (x, z)))) rfl rfl (by decide) ?_
  refine to_if 3 (c := (v1 &&& ((1 : Int32) <<< ((v0 - v0 / (3 : Int32) * (3 : Int32)) &&& 31))) = 0) (p1 := 14) (p2 := 10) (a' := ([(0, am_I v0), (1, am_I v1)], ([], (x, z)))) rfl (fun c_1 => ?_) (fun c_1 => ?_)
  · exact to_rk 1 15 (c := am_bz (0 : Int32) = true) (r := ((0 : Int32), x)) rfl rfl (by decide)
  · exact to_rk 2 15 (c := am_bz (1 : Int32) = true) (r := ((1 : Int32), x)) rfl rfl (by decide)
def b_X0_howMany_51 (n : Nat) (h5 : Nat → Int32 → Int32 → Int32 → Int32 → am_X → Option (Int32 × am_X)) (i0 : Nat) (v1 : Int32) (v2 : Int32) (v3 : Int32) (v4 : Int32) (x : am_X) : Option (Int32 × am_X) := h5 i0 v1 v2 v3 (v4 + (1 : Int32)) x
theorem tb_X0_howMany_51 {n : Nat} {h5 : Nat → Int32 → Int32 → Int32 → Int32 → am_X → Option (Int32 × am_X)} {d : Nat} {z : am_X} (hd : 1 ≤ d) (hh5 : ∀ (i0 : Nat) (v1 : Int32) (v2 : Int32) (v3 : Int32) (v4 : Int32) (x : am_X), am_To d (am_tab pX0_howMany) 5 ([(0, am_R 5 i0), (1, am_I v1), (2, am_I v2), (3, am_I v3), (4, am_I v4)], ([], (x, z))) (cvI0 z) (h5 i0 v1 v2 v3 v4 x)) (i0 : Nat) (v1 : Int32) (v2 : Int32) (v3 : Int32) (v4 : Int32) (x : am_X) : am_To d (am_tab pX0_howMany) 51 ([(0, am_R 5 i0), (1, am_I v1), (2, am_I v2), (3, am_I v3), (4, am_I v4)], ([], (x, z))) (cvI0 z) (b_X0_howMany_51 n h5 i0 v1 v2 v3 v4 x) := by
  unfold b_X0_howMany_51
  refine to_go 2 (pc' := 5) (a' := ([(4, am_I (v4 + (1 : Int32))), (0, am_R 5 i0), (1, am_I v1), (2, am_I v2), (3, am_I v3)], ([], (x, z)))) rfl ?_
  refine to_fg [1, 2, 3, 4, 0] (lv' := [(0, am_R 5 i0), (1, am_I v1), (2, am_I v2), (3, am_I v3), (4, am_I (v4 + (1 : Int32)))]) rfl ?_
  exact hh5 i0 v1 v2 v3 (v4 + (1 : Int32)) x
def b_X0_howMany_5 (n : Nat) : Nat → Nat → Int32 → Int32 → Int32 → Int32 → am_X → Option (Int32 × am_X)
  | 0, _, _, _, _, _, _ => none
  | k + 1, i0, v1, v2, v3, v4, x => if (xF x 5 1 i0) ≤ v4 then (some (v3, x)) else (if (12 : Int32) ≤ v4 then (some (v3, x)) else (if am_inB v4 12 = true then (if (xA x 12 i0 (Int32.toNatClampNeg v4)) < (v2 * (3 : Int32)) then (b_X0_howMany_51 n (b_X0_howMany_5 n k) i0 v1 v2 v3 v4 x) else (if am_inB v4 12 = true then ((f_X0_isOf n (xA x 12 i0 (Int32.toNatClampNeg v4)) v1 x).bind fun q6 => if q6.1 = 0 then (b_X0_howMany_51 n (b_X0_howMany_5 n k) i0 v1 v2 v3 v4 q6.2) else (b_X0_howMany_51 n (b_X0_howMany_5 n k) i0 v1 v2 (v3 + (1 : Int32)) v4 q6.2)) else none)) else none))
theorem tb_X0_howMany_5 {n : Nat} {d : Nat} {z : am_X} (hd : 1 ≤ d) : ∀ (k : Nat) (i0 : Nat) (v1 : Int32) (v2 : Int32) (v3 : Int32) (v4 : Int32) (x : am_X), am_To d (am_tab pX0_howMany) 5 ([(0, am_R 5 i0), (1, am_I v1), (2, am_I v2), (3, am_I v3), (4, am_I v4)], ([], (x, z))) (cvI0 z) (b_X0_howMany_5 n k i0 v1 v2 v3 v4 x) := by
  intro k
  induction k with
  | zero =>
    intro i0 v1 v2 v3 v4 x
    exact to_0
  | succ k ih =>
    intro i0 v1 v2 v3 v4 x
    rw [b_X0_howMany_5]
    refine to_if 4 (c := (xF x 5 1 i0) ≤ v4) (p1 := 57) (p2 := 14) (a' := ([(0, am_R 5 i0), (1, am_I v1), (2, am_I v2), (3, am_I v3), (4, am_I v4)], ([], (x, z)))) rfl (fun c_1 => ?_) (fun c_1 => ?_)
    · exact to_rt 2 (r := (v3, x)) rfl
    · refine to_if 3 (c := (12 : Int32) ≤ v4) (p1 := 57) (p2 := 21) (a' := ([(0, am_R 5 i0), (1, am_I v1), (2, am_I v2), (3, am_I v3), (4, am_I v4)], ([], (x, z)))) rfl (fun c_2 => ?_) (fun c_2 => ?_)
      · exact to_rt 2 (r := (v3, x)) rfl
      · refine to_gd 3 27 (c := am_inB v4 12 = true) (pc' := 28) (a' := ([(0, am_R 5 i0), (1, am_I v1), (2, am_I v2), (3, am_I v3), (4, am_I v4)], ([am_I (xA x 12 i0 (Int32.toNatClampNeg v4))], (x, z)))) rfl rfl (fun c_3 => ?_)
        refine to_if 4 (c := (xA x 12 i0 (Int32.toNatClampNeg v4)) < (v2 * (3 : Int32))) (p1 := 51) (p2 := 34) (a' := ([(0, am_R 5 i0), (1, am_I v1), (2, am_I v2), (3, am_I v3), (4, am_I v4)], ([], (x, z)))) rfl (fun c_4 => ?_) (fun c_4 => ?_)
        · refine to_fg [0, 1, 2, 3, 4] (lv' := [(0, am_R 5 i0), (1, am_I v1), (2, am_I v2), (3, am_I v3), (4, am_I v4)]) rfl ?_
          exact tb_X0_howMany_51 (by omega) ih  i0 v1 v2 v3 v4 x
        · refine to_gd 3 40 (c := am_inB v4 12 = true) (pc' := 41) (a' := ([(0, am_R 5 i0), (1, am_I v1), (2, am_I v2), (3, am_I v3), (4, am_I v4)], ([am_I (xA x 12 i0 (Int32.toNatClampNeg v4))], (x, z)))) rfl rfl (fun c_5 => ?_)
          refine to_cl 2 (lv := [(0, am_R 5 i0), (1, am_I v1), (2, am_I v2), (3, am_I v3), (4, am_I v4)]) (st := []) (M := (x, z)) (cb := (cvI0 z)) rfl (fun q hq => t_X0_isOf (by omega) hq) (fun q6 => ?_)
          refine to_if 1 (c := q6.1 = 0) (p1 := 51) (p2 := 48) (a' := ([(0, am_R 5 i0), (1, am_I v1), (2, am_I v2), (3, am_I v3), (4, am_I v4)], ([], (q6.2, z)))) rfl (fun c_7 => ?_) (fun c_7 => ?_)
          · refine to_fg [0, 1, 2, 3, 4] (lv' := [(0, am_R 5 i0), (1, am_I v1), (2, am_I v2), (3, am_I v3), (4, am_I v4)]) rfl ?_
            exact tb_X0_howMany_51 (by omega) ih  i0 v1 v2 v3 v4 q6.2
          · refine to_go 1 (pc' := 51) (a' := ([(3, am_I (v3 + (1 : Int32))), (0, am_R 5 i0), (1, am_I v1), (2, am_I v2), (4, am_I v4)], ([], (q6.2, z)))) rfl ?_
            refine to_fg [1, 2, 3, 0, 4] (lv' := [(0, am_R 5 i0), (1, am_I v1), (2, am_I v2), (3, am_I (v3 + (1 : Int32))), (4, am_I v4)]) rfl ?_
            exact tb_X0_howMany_51 (by omega) ih  i0 v1 v2 (v3 + (1 : Int32)) v4 q6.2
def f_X0_howMany (n : Nat) (i0 : Nat) (v1 : Int32) (v2 : Int32) (x : am_X) : Option (Int32 × am_X) := b_X0_howMany_5 n n i0 v1 v2 (0 : Int32) (0 : Int32) x
theorem t_X0_howMany {n : Nat} {d : Nat} {i0 : Nat} {v1 : Int32} {v2 : Int32} {x z : am_X} {q : Int32 × am_X} (hd : 2 ≤ d) (h : f_X0_howMany n i0 v1 v2 x = some q) : am_Ev am_PR d 3 [am_R 5 i0, am_I v1, am_I v2] (x, z) (cvI0 z q) := by
  obtain ⟨d, rfl⟩ : ∃ e, d = e + 1 := ⟨d - 1, by omega⟩
  refine to_ev (P := (am_tab pX0_howMany)) rfl (lv := [(0, am_R 5 i0), (1, am_I v1), (2, am_I v2)]) rfl ?_ q h
  unfold f_X0_howMany
  refine to_go 4 (pc' := 5) (a' := ([(4, am_I (0 : Int32)), (3, am_I (0 : Int32)), (0, am_R 5 i0), (1, am_I v1), (2, am_I v2)], ([], (x, z)))) rfl ?_
  refine to_fg [2, 3, 4, 1, 0] (lv' := [(0, am_R 5 i0), (1, am_I v1), (2, am_I v2), (3, am_I (0 : Int32)), (4, am_I (0 : Int32))]) rfl ?_
  exact tb_X0_howMany_5 (by omega)  n i0 v1 v2 (0 : Int32) (0 : Int32) x
def b_X0_oldestWeek_2 (n : Nat) : Nat → Nat → Int32 → Int32 → am_X → Option (Int32 × am_X)
  | 0, _, _, _, _ => none
  | k + 1, i0, v1, v2, x => if (xF x 5 1 i0) ≤ v2 then (some ((-1 : Int32), x)) else (if (12 : Int32) ≤ v2 then (some ((-1 : Int32), x)) else (if am_inB v2 12 = true then ((f_X0_isOf n (xA x 12 i0 (Int32.toNatClampNeg v2)) v1 x).bind fun q4 => if q4.1 = 0 then (b_X0_oldestWeek_2 n k i0 v1 (v2 + (1 : Int32)) q4.2) else (if am_inB v2 12 = true then (some (((xA q4.2 12 i0 (Int32.toNatClampNeg v2)) / (3 : Int32)), q4.2)) else none)) else none))
theorem tb_X0_oldestWeek_2 {n : Nat} {d : Nat} {z : am_X} (hd : 1 ≤ d) : ∀ (k : Nat) (i0 : Nat) (v1 : Int32) (v2 : Int32) (x : am_X), am_To d (am_tab pX0_oldestWeek) 2 ([(0, am_R 5 i0), (1, am_I v1), (2, am_I v2)], ([], (x, z))) (cvI0 z) (b_X0_oldestWeek_2 n k i0 v1 v2 x) := by
  intro k
  induction k with
  | zero =>
    intro i0 v1 v2 x
    exact to_0
  | succ k ih =>
    intro i0 v1 v2 x
    rw [b_X0_oldestWeek_2]
    refine to_if 4 (c := (xF x 5 1 i0) ≤ v2) (p1 := 44) (p2 := 10) (a' := ([(0, am_R 5 i0), (1, am_I v1), (2, am_I v2)], ([], (x, z)))) rfl (fun c_1 => ?_) (fun c_1 => ?_)
    · exact to_rt 2 (r := ((-1 : Int32), x)) rfl
    · refine to_if 3 (c := (12 : Int32) ≤ v2) (p1 := 44) (p2 := 16) (a' := ([(0, am_R 5 i0), (1, am_I v1), (2, am_I v2)], ([], (x, z)))) rfl (fun c_2 => ?_) (fun c_2 => ?_)
      · exact to_rt 2 (r := ((-1 : Int32), x)) rfl
      · refine to_gd 3 21 (c := am_inB v2 12 = true) (pc' := 22) (a' := ([(0, am_R 5 i0), (1, am_I v1), (2, am_I v2)], ([am_I (xA x 12 i0 (Int32.toNatClampNeg v2))], (x, z)))) rfl rfl (fun c_3 => ?_)
        refine to_cl 2 (lv := [(0, am_R 5 i0), (1, am_I v1), (2, am_I v2)]) (st := []) (M := (x, z)) (cb := (cvI0 z)) rfl (fun q hq => t_X0_isOf (by omega) hq) (fun q4 => ?_)
        refine to_if 1 (c := q4.1 = 0) (p1 := 38) (p2 := 29) (a' := ([(0, am_R 5 i0), (1, am_I v1), (2, am_I v2)], ([], (q4.2, z)))) rfl (fun c_5 => ?_) (fun c_5 => ?_)
        · refine to_go 2 (pc' := 2) (a' := ([(2, am_I (v2 + (1 : Int32))), (0, am_R 5 i0), (1, am_I v1)], ([], (q4.2, z)))) rfl ?_
          refine to_fg [1, 2, 0] (lv' := [(0, am_R 5 i0), (1, am_I v1), (2, am_I (v2 + (1 : Int32)))]) rfl ?_
          exact ih i0 v1 (v2 + (1 : Int32)) q4.2
        · refine to_gd 3 34 (c := am_inB v2 12 = true) (pc' := 35) (a' := ([(0, am_R 5 i0), (1, am_I v1), (2, am_I v2)], ([am_I (xA q4.2 12 i0 (Int32.toNatClampNeg v2))], (q4.2, z)))) rfl rfl (fun c_6 => ?_)
          refine to_gk 1 36 (c := ¬ (3 : Int32) = 0) (pc' := 37) (a' := ([(0, am_R 5 i0), (1, am_I v1), (2, am_I v2)], ([am_I ((xA q4.2 12 i0 (Int32.toNatClampNeg v2)) / (3 : Int32))], (q4.2, z)))) rfl rfl (by decide) ?_
          exact to_rt 1 (r := (((xA q4.2 12 i0 (Int32.toNatClampNeg v2)) / (3 : Int32)), q4.2)) rfl
def f_X0_oldestWeek (n : Nat) (i0 : Nat) (v1 : Int32) (x : am_X) : Option (Int32 × am_X) := b_X0_oldestWeek_2 n n i0 v1 (0 : Int32) x
theorem t_X0_oldestWeek {n : Nat} {d : Nat} {i0 : Nat} {v1 : Int32} {x z : am_X} {q : Int32 × am_X} (hd : 2 ≤ d) (h : f_X0_oldestWeek n i0 v1 x = some q) : am_Ev am_PR d 4 [am_R 5 i0, am_I v1] (x, z) (cvI0 z q) := by
  obtain ⟨d, rfl⟩ : ∃ e, d = e + 1 := ⟨d - 1, by omega⟩
  refine to_ev (P := (am_tab pX0_oldestWeek)) rfl (lv := [(0, am_R 5 i0), (1, am_I v1)]) rfl ?_ q h
  unfold f_X0_oldestWeek
  refine to_go 2 (pc' := 2) (a' := ([(2, am_I (0 : Int32)), (0, am_R 5 i0), (1, am_I v1)], ([], (x, z)))) rfl ?_
  refine to_fg [1, 2, 0] (lv' := [(0, am_R 5 i0), (1, am_I v1), (2, am_I (0 : Int32))]) rfl ?_
  exact tb_X0_oldestWeek_2 (by omega)  n i0 v1 (0 : Int32) x
def b_X0_dropOldest_65 (n : Nat) (h8 : Nat → Int32 → Int32 → Int32 → Int32 → am_X → Option (am_X)) (i0 : Nat) (v1 : Int32) (v3 : Int32) (v4 : Int32) (v5 : Int32) (x : am_X) : Option (am_X) := h8 i0 v1 v3 v4 (v5 + (1 : Int32)) x
theorem tb_X0_dropOldest_65 {n : Nat} {h8 : Nat → Int32 → Int32 → Int32 → Int32 → am_X → Option (am_X)} {d : Nat} {z : am_X} (hd : 1 ≤ d) (hh8 : ∀ (i0 : Nat) (v1 : Int32) (v3 : Int32) (v4 : Int32) (v5 : Int32) (x : am_X), am_To d (am_tab pX0_dropOldest) 8 ([(0, am_R 5 i0), (1, am_I v1), (3, am_I v3), (4, am_I v4), (5, am_I v5)], ([], (x, z))) (cvV0 z) (h8 i0 v1 v3 v4 v5 x)) (i0 : Nat) (v1 : Int32) (v3 : Int32) (v4 : Int32) (v5 : Int32) (x : am_X) : am_To d (am_tab pX0_dropOldest) 65 ([(0, am_R 5 i0), (1, am_I v1), (3, am_I v3), (4, am_I v4), (5, am_I v5)], ([], (x, z))) (cvV0 z) (b_X0_dropOldest_65 n h8 i0 v1 v3 v4 v5 x) := by
  unfold b_X0_dropOldest_65
  refine to_go 2 (pc' := 8) (a' := ([(5, am_I (v5 + (1 : Int32))), (0, am_R 5 i0), (1, am_I v1), (3, am_I v3), (4, am_I v4)], ([], (x, z)))) rfl ?_
  refine to_fg [1, 2, 3, 4, 0] (lv' := [(0, am_R 5 i0), (1, am_I v1), (3, am_I v3), (4, am_I v4), (5, am_I (v5 + (1 : Int32)))]) rfl ?_
  exact hh8 i0 v1 v3 v4 (v5 + (1 : Int32)) x
def b_X0_dropOldest_48 (n : Nat) (h8 : Nat → Int32 → Int32 → Int32 → Int32 → am_X → Option (am_X)) (i0 : Nat) (v1 : Int32) (v3 : Int32) (v4 : Int32) (v5 : Int32) (x : am_X) : Option (am_X) := if am_inB v5 12 = true then (if am_inB v4 12 = true then (b_X0_dropOldest_65 n h8 i0 v1 v3 (v4 + (1 : Int32)) v5 (sA x 12 i0 (Int32.toNatClampNeg v4) (xA x 12 i0 (Int32.toNatClampNeg v5)))) else none) else none
theorem tb_X0_dropOldest_48 {n : Nat} {h8 : Nat → Int32 → Int32 → Int32 → Int32 → am_X → Option (am_X)} {d : Nat} {z : am_X} (hd : 1 ≤ d) (hh8 : ∀ (i0 : Nat) (v1 : Int32) (v3 : Int32) (v4 : Int32) (v5 : Int32) (x : am_X), am_To d (am_tab pX0_dropOldest) 8 ([(0, am_R 5 i0), (1, am_I v1), (3, am_I v3), (4, am_I v4), (5, am_I v5)], ([], (x, z))) (cvV0 z) (h8 i0 v1 v3 v4 v5 x)) (i0 : Nat) (v1 : Int32) (v3 : Int32) (v4 : Int32) (v5 : Int32) (x : am_X) : am_To d (am_tab pX0_dropOldest) 48 ([(0, am_R 5 i0), (1, am_I v1), (3, am_I v3), (4, am_I v4), (5, am_I v5)], ([], (x, z))) (cvV0 z) (b_X0_dropOldest_48 n h8 i0 v1 v3 v4 v5 x) := by
  unfold b_X0_dropOldest_48
  refine to_go 4 (pc' := 55) (a' := ([(0, am_R 5 i0), (1, am_I v1), (3, am_I v3), (4, am_I v4), (5, am_I v5)], ([am_R 5 i0, am_I v4, am_R 12 i0], (x, z)))) rfl ?_
  refine to_gd 2 60 (c := am_inB v5 12 = true) (pc' := 61) (a' := ([(0, am_R 5 i0), (1, am_I v1), (3, am_I v3), (4, am_I v4), (5, am_I v5)], ([am_I (xA x 12 i0 (Int32.toNatClampNeg v5)), am_I v4, am_R 12 i0], (x, z)))) rfl rfl (fun c_1 => ?_)
  refine to_gd 0 61 (c := am_inB v4 12 = true) (pc' := 62) (a' := ([(0, am_R 5 i0), (1, am_I v1), (3, am_I v3), (4, am_I v4), (5, am_I v5)], ([], ((sA x 12 i0 (Int32.toNatClampNeg v4) (xA x 12 i0 (Int32.toNatClampNeg v5))), z)))) rfl rfl (fun c_2 => ?_)
  refine to_go 1 (pc' := 65) (a' := ([(4, am_I (v4 + (1 : Int32))), (0, am_R 5 i0), (1, am_I v1), (3, am_I v3), (5, am_I v5)], ([], ((sA x 12 i0 (Int32.toNatClampNeg v4) (xA x 12 i0 (Int32.toNatClampNeg v5))), z)))) rfl ?_
  refine to_fg [1, 2, 3, 0, 4] (lv' := [(0, am_R 5 i0), (1, am_I v1), (3, am_I v3), (4, am_I (v4 + (1 : Int32))), (5, am_I v5)]) rfl ?_
  exact tb_X0_dropOldest_65 (by omega) hh8  i0 v1 v3 (v4 + (1 : Int32)) v5 (sA x 12 i0 (Int32.toNatClampNeg v4) (xA x 12 i0 (Int32.toNatClampNeg v5)))
def b_X0_dropOldest_8 (n : Nat) : Nat → Nat → Int32 → Int32 → Int32 → Int32 → am_X → Option (am_X)
  | 0, _, _, _, _, _, _ => none
  | k + 1, i0, v1, v3, v4, v5, x => if (xF x 5 1 i0) ≤ v5 then (some (sF x 5 1 i0 v4)) else (if (12 : Int32) ≤ v5 then (some (sF x 5 1 i0 v4)) else (if v3 ≤ 0 then (b_X0_dropOldest_48 n (b_X0_dropOldest_8 n k) i0 v1 v3 v4 v5 x) else (if am_inB v5 12 = true then ((f_X0_isOf n (xA x 12 i0 (Int32.toNatClampNeg v5)) v1 x).bind fun q5 => if q5.1 = 0 then (b_X0_dropOldest_48 n (b_X0_dropOldest_8 n k) i0 v1 v3 v4 v5 q5.2) else (b_X0_dropOldest_65 n (b_X0_dropOldest_8 n k) i0 v1 (v3 + (-1 : Int32)) v4 v5 q5.2)) else none)))
theorem tb_X0_dropOldest_8 {n : Nat} {d : Nat} {z : am_X} (hd : 1 ≤ d) : ∀ (k : Nat) (i0 : Nat) (v1 : Int32) (v3 : Int32) (v4 : Int32) (v5 : Int32) (x : am_X), am_To d (am_tab pX0_dropOldest) 8 ([(0, am_R 5 i0), (1, am_I v1), (3, am_I v3), (4, am_I v4), (5, am_I v5)], ([], (x, z))) (cvV0 z) (b_X0_dropOldest_8 n k i0 v1 v3 v4 v5 x) := by
  intro k
  induction k with
  | zero =>
    intro i0 v1 v3 v4 v5 x
    exact to_0
  | succ k ih =>
    intro i0 v1 v3 v4 v5 x
    rw [b_X0_dropOldest_8]
    refine to_if 4 (c := (xF x 5 1 i0) ≤ v5) (p1 := 71) (p2 := 17) (a' := ([(0, am_R 5 i0), (1, am_I v1), (3, am_I v3), (4, am_I v4), (5, am_I v5)], ([], (x, z)))) rfl (fun c_1 => ?_) (fun c_1 => ?_)
    · exact to_rt 4 rfl
    · refine to_if 3 (c := (12 : Int32) ≤ v5) (p1 := 71) (p2 := 24) (a' := ([(0, am_R 5 i0), (1, am_I v1), (3, am_I v3), (4, am_I v4), (5, am_I v5)], ([], (x, z)))) rfl (fun c_2 => ?_) (fun c_2 => ?_)
      · exact to_rt 4 rfl
      · refine to_if 2 (c := v3 ≤ 0) (p1 := 48) (p2 := 28) (a' := ([(0, am_R 5 i0), (1, am_I v1), (3, am_I v3), (4, am_I v4), (5, am_I v5)], ([], (x, z)))) rfl (fun c_3 => ?_) (fun c_3 => ?_)
        · refine to_fg [0, 1, 2, 3, 4] (lv' := [(0, am_R 5 i0), (1, am_I v1), (3, am_I v3), (4, am_I v4), (5, am_I v5)]) rfl ?_
          exact tb_X0_dropOldest_48 (by omega) ih  i0 v1 v3 v4 v5 x
        · refine to_gd 3 34 (c := am_inB v5 12 = true) (pc' := 35) (a' := ([(0, am_R 5 i0), (1, am_I v1), (3, am_I v3), (4, am_I v4), (5, am_I v5)], ([am_I (xA x 12 i0 (Int32.toNatClampNeg v5))], (x, z)))) rfl rfl (fun c_4 => ?_)
          refine to_cl 2 (lv := [(0, am_R 5 i0), (1, am_I v1), (3, am_I v3), (4, am_I v4), (5, am_I v5)]) (st := []) (M := (x, z)) (cb := (cvI0 z)) rfl (fun q hq => t_X0_isOf (by omega) hq) (fun q5 => ?_)
          refine to_if 1 (c := q5.1 = 0) (p1 := 48) (p2 := 42) (a' := ([(0, am_R 5 i0), (1, am_I v1), (3, am_I v3), (4, am_I v4), (5, am_I v5)], ([], (q5.2, z)))) rfl (fun c_6 => ?_) (fun c_6 => ?_)
          · refine to_fg [0, 1, 2, 3, 4] (lv' := [(0, am_R 5 i0), (1, am_I v1), (3, am_I v3), (4, am_I v4), (5, am_I v5)]) rfl ?_
            exact tb_X0_dropOldest_48 (by omega) ih  i0 v1 v3 v4 v5 q5.2
          · refine to_go 2 (pc' := 65) (a' := ([(3, am_I (v3 + (-1 : Int32))), (0, am_R 5 i0), (1, am_I v1), (4, am_I v4), (5, am_I v5)], ([], (q5.2, z)))) rfl ?_
            refine to_fg [1, 2, 0, 3, 4] (lv' := [(0, am_R 5 i0), (1, am_I v1), (3, am_I (v3 + (-1 : Int32))), (4, am_I v4), (5, am_I v5)]) rfl ?_
            exact tb_X0_dropOldest_65 (by omega) ih  i0 v1 (v3 + (-1 : Int32)) v4 v5 q5.2
def f_X0_dropOldest (n : Nat) (i0 : Nat) (v1 : Int32) (v2 : Int32) (x : am_X) : Option (am_X) := b_X0_dropOldest_8 n n i0 v1 v2 (0 : Int32) (0 : Int32) x
theorem t_X0_dropOldest {n : Nat} {d : Nat} {i0 : Nat} {v1 : Int32} {v2 : Int32} {x z : am_X} {q : am_X} (hd : 2 ≤ d) (h : f_X0_dropOldest n i0 v1 v2 x = some q) : am_Ev am_PR d 5 [am_R 5 i0, am_I v1, am_I v2] (x, z) (cvV0 z q) := by
  obtain ⟨d, rfl⟩ : ∃ e, d = e + 1 := ⟨d - 1, by omega⟩
  refine to_ev (P := (am_tab pX0_dropOldest)) rfl (lv := [(0, am_R 5 i0), (1, am_I v1), (2, am_I v2)]) rfl ?_ q h
  unfold f_X0_dropOldest
  refine to_go 4 (pc' := 5) (a' := ([(4, am_I (0 : Int32)), (3, am_I v2), (0, am_R 5 i0), (1, am_I v1), (2, am_I v2)], ([], (x, z)))) rfl ?_
  refine to_go 2 (pc' := 8) (a' := ([(5, am_I (0 : Int32)), (4, am_I (0 : Int32)), (3, am_I v2), (0, am_R 5 i0), (1, am_I v1), (2, am_I v2)], ([], (x, z)))) rfl ?_
  refine to_fg [3, 4, 2, 1, 0] (lv' := [(0, am_R 5 i0), (1, am_I v1), (3, am_I v2), (4, am_I (0 : Int32)), (5, am_I (0 : Int32))]) rfl ?_
  exact tb_X0_dropOldest_8 (by omega)  n i0 v1 v2 (0 : Int32) (0 : Int32) x
def b_X0_dropAheadOf_45 (n : Nat) (h4 : Nat → Int32 → Int32 → Int32 → am_X → Option (am_X)) (i0 : Nat) (v1 : Int32) (v2 : Int32) (v3 : Int32) (x : am_X) : Option (am_X) := h4 i0 v1 v2 (v3 + (1 : Int32)) x
theorem tb_X0_dropAheadOf_45 {n : Nat} {h4 : Nat → Int32 → Int32 → Int32 → am_X → Option (am_X)} {d : Nat} {z : am_X} (hd : 0 ≤ d) (hh4 : ∀ (i0 : Nat) (v1 : Int32) (v2 : Int32) (v3 : Int32) (x : am_X), am_To d (am_tab pX0_dropAheadOf) 4 ([(0, am_R 5 i0), (1, am_I v1), (2, am_I v2), (3, am_I v3)], ([], (x, z))) (cvV0 z) (h4 i0 v1 v2 v3 x)) (i0 : Nat) (v1 : Int32) (v2 : Int32) (v3 : Int32) (x : am_X) : am_To d (am_tab pX0_dropAheadOf) 45 ([(0, am_R 5 i0), (1, am_I v1), (2, am_I v2), (3, am_I v3)], ([], (x, z))) (cvV0 z) (b_X0_dropAheadOf_45 n h4 i0 v1 v2 v3 x) := by
  unfold b_X0_dropAheadOf_45
  refine to_go 2 (pc' := 4) (a' := ([(3, am_I (v3 + (1 : Int32))), (0, am_R 5 i0), (1, am_I v1), (2, am_I v2)], ([], (x, z)))) rfl ?_
  refine to_fg [1, 2, 3, 0] (lv' := [(0, am_R 5 i0), (1, am_I v1), (2, am_I v2), (3, am_I (v3 + (1 : Int32)))]) rfl ?_
  exact hh4 i0 v1 v2 (v3 + (1 : Int32)) x
def b_X0_dropAheadOf_4 (n : Nat) : Nat → Nat → Int32 → Int32 → Int32 → am_X → Option (am_X)
  | 0, _, _, _, _, _ => none
  | k + 1, i0, v1, v2, v3, x => if (xF x 5 1 i0) ≤ v3 then (some (sF x 5 1 i0 v2)) else (if (12 : Int32) ≤ v3 then (some (sF x 5 1 i0 v2)) else (if am_inB v3 12 = true then (if (xA x 12 i0 (Int32.toNatClampNeg v3)) < (v1 * (3 : Int32)) then (b_X0_dropAheadOf_45 n (b_X0_dropAheadOf_4 n k) i0 v1 v2 v3 x) else (if am_inB v3 12 = true then (if am_inB v2 12 = true then (b_X0_dropAheadOf_45 n (b_X0_dropAheadOf_4 n k) i0 v1 (v2 + (1 : Int32)) v3 (sA x 12 i0 (Int32.toNatClampNeg v2) (xA x 12 i0 (Int32.toNatClampNeg v3)))) else none) else none)) else none))
theorem tb_X0_dropAheadOf_4 {n : Nat} {d : Nat} {z : am_X} (hd : 0 ≤ d) : ∀ (k : Nat) (i0 : Nat) (v1 : Int32) (v2 : Int32) (v3 : Int32) (x : am_X), am_To d (am_tab pX0_dropAheadOf) 4 ([(0, am_R 5 i0), (1, am_I v1), (2, am_I v2), (3, am_I v3)], ([], (x, z))) (cvV0 z) (b_X0_dropAheadOf_4 n k i0 v1 v2 v3 x) := by
  intro k
  induction k with
  | zero =>
    intro i0 v1 v2 v3 x
    exact to_0
  | succ k ih =>
    intro i0 v1 v2 v3 x
    rw [b_X0_dropAheadOf_4]
    refine to_if 4 (c := (xF x 5 1 i0) ≤ v3) (p1 := 51) (p2 := 12) (a' := ([(0, am_R 5 i0), (1, am_I v1), (2, am_I v2), (3, am_I v3)], ([], (x, z)))) rfl (fun c_1 => ?_) (fun c_1 => ?_)
    · exact to_rt 4 rfl
    · refine to_if 3 (c := (12 : Int32) ≤ v3) (p1 := 51) (p2 := 18) (a' := ([(0, am_R 5 i0), (1, am_I v1), (2, am_I v2), (3, am_I v3)], ([], (x, z)))) rfl (fun c_2 => ?_) (fun c_2 => ?_)
      · exact to_rt 4 rfl
      · refine to_gd 3 23 (c := am_inB v3 12 = true) (pc' := 24) (a' := ([(0, am_R 5 i0), (1, am_I v1), (2, am_I v2), (3, am_I v3)], ([am_I (xA x 12 i0 (Int32.toNatClampNeg v3))], (x, z)))) rfl rfl (fun c_3 => ?_)
        refine to_if 4 (c := (xA x 12 i0 (Int32.toNatClampNeg v3)) < (v1 * (3 : Int32))) (p1 := 45) (p2 := 30) (a' := ([(0, am_R 5 i0), (1, am_I v1), (2, am_I v2), (3, am_I v3)], ([], (x, z)))) rfl (fun c_4 => ?_) (fun c_4 => ?_)
        · refine to_fg [0, 1, 2, 3] (lv' := [(0, am_R 5 i0), (1, am_I v1), (2, am_I v2), (3, am_I v3)]) rfl ?_
          exact tb_X0_dropAheadOf_45 (by omega) ih  i0 v1 v2 v3 x
        · refine to_go 4 (pc' := 36) (a' := ([(0, am_R 5 i0), (1, am_I v1), (2, am_I v2), (3, am_I v3)], ([am_R 5 i0, am_I v2, am_R 12 i0], (x, z)))) rfl ?_
          refine to_gd 2 40 (c := am_inB v3 12 = true) (pc' := 41) (a' := ([(0, am_R 5 i0), (1, am_I v1), (2, am_I v2), (3, am_I v3)], ([am_I (xA x 12 i0 (Int32.toNatClampNeg v3)), am_I v2, am_R 12 i0], (x, z)))) rfl rfl (fun c_5 => ?_)
          refine to_gd 0 41 (c := am_inB v2 12 = true) (pc' := 42) (a' := ([(0, am_R 5 i0), (1, am_I v1), (2, am_I v2), (3, am_I v3)], ([], ((sA x 12 i0 (Int32.toNatClampNeg v2) (xA x 12 i0 (Int32.toNatClampNeg v3))), z)))) rfl rfl (fun c_6 => ?_)
          refine to_go 1 (pc' := 45) (a' := ([(2, am_I (v2 + (1 : Int32))), (0, am_R 5 i0), (1, am_I v1), (3, am_I v3)], ([], ((sA x 12 i0 (Int32.toNatClampNeg v2) (xA x 12 i0 (Int32.toNatClampNeg v3))), z)))) rfl ?_
          refine to_fg [1, 2, 0, 3] (lv' := [(0, am_R 5 i0), (1, am_I v1), (2, am_I (v2 + (1 : Int32))), (3, am_I v3)]) rfl ?_
          exact tb_X0_dropAheadOf_45 (by omega) ih  i0 v1 (v2 + (1 : Int32)) v3 (sA x 12 i0 (Int32.toNatClampNeg v2) (xA x 12 i0 (Int32.toNatClampNeg v3)))
def f_X0_dropAheadOf (n : Nat) (i0 : Nat) (v1 : Int32) (x : am_X) : Option (am_X) := b_X0_dropAheadOf_4 n n i0 v1 (0 : Int32) (0 : Int32) x
theorem t_X0_dropAheadOf {n : Nat} {d : Nat} {i0 : Nat} {v1 : Int32} {x z : am_X} {q : am_X} (hd : 1 ≤ d) (h : f_X0_dropAheadOf n i0 v1 x = some q) : am_Ev am_PR d 6 [am_R 5 i0, am_I v1] (x, z) (cvV0 z q) := by
  obtain ⟨d, rfl⟩ : ∃ e, d = e + 1 := ⟨d - 1, by omega⟩
  refine to_ev (P := (am_tab pX0_dropAheadOf)) rfl (lv := [(0, am_R 5 i0), (1, am_I v1)]) rfl ?_ q h
  unfold f_X0_dropAheadOf
  refine to_go 4 (pc' := 4) (a' := ([(3, am_I (0 : Int32)), (2, am_I (0 : Int32)), (0, am_R 5 i0), (1, am_I v1)], ([], (x, z)))) rfl ?_
  refine to_fg [2, 3, 1, 0] (lv' := [(0, am_R 5 i0), (1, am_I v1), (2, am_I (0 : Int32)), (3, am_I (0 : Int32))]) rfl ?_
  exact tb_X0_dropAheadOf_4 (by omega)  n i0 v1 (0 : Int32) (0 : Int32) x
def b_X0_moveTo_54 (n : Nat) (i0 : Nat) (v2 : Int32) (x : am_X) : Option (Int32 × am_X) := some (v2, (sF x 5 1 i0 (0 : Int32)))
theorem tb_X0_moveTo_54 {n : Nat} {d : Nat} {z : am_X} (hd : 1 ≤ d) (i0 : Nat) (v2 : Int32) (x : am_X) : am_To d (am_tab pX0_moveTo) 54 ([(0, am_R 5 i0), (2, am_I v2)], ([], (x, z))) (cvI0 z) (b_X0_moveTo_54 n i0 v2 x) := by
  unfold b_X0_moveTo_54
  refine to_go 4 (pc' := 60) (a' := ([(0, am_R 5 i0), (2, am_I v2)], ([am_I v2], ((sF x 5 1 i0 (0 : Int32)), z)))) rfl ?_
  exact to_rt 1 (r := (v2, (sF x 5 1 i0 (0 : Int32)))) rfl
def b_X0_moveTo_4 (n : Nat) : Nat → Nat → Nat → Int32 → Int32 → am_X → Option (Int32 × am_X)
  | 0, _, _, _, _, _ => none
  | k + 1, i0, i1, v2, v3, x => if (xF x 5 1 i0) ≤ v3 then (b_X0_moveTo_54 n i0 v2 x) else (if (12 : Int32) ≤ v3 then (b_X0_moveTo_54 n i0 v2 x) else ((f_X0_hasRoom n i1 x).bind fun q3 => if q3.1 = 0 then (b_X0_moveTo_54 n i0 v2 q3.2) else (if am_inB v3 12 = true then (if am_inB v3 12 = true then ((f_X0_give n i1 ((xA q3.2 12 i0 (Int32.toNatClampNeg v3)) - (xA q3.2 12 i0 (Int32.toNatClampNeg v3)) / (3 : Int32) * (3 : Int32)) ((xA q3.2 12 i0 (Int32.toNatClampNeg v3)) / (3 : Int32)) q3.2).bind fun q7 => b_X0_moveTo_4 n k i0 i1 (v2 + (1 : Int32)) (v3 + (1 : Int32)) q7) else none) else none)))
theorem tb_X0_moveTo_4 {n : Nat} {d : Nat} {z : am_X} (hd : 1 ≤ d) : ∀ (k : Nat) (i0 : Nat) (i1 : Nat) (v2 : Int32) (v3 : Int32) (x : am_X), am_To d (am_tab pX0_moveTo) 4 ([(0, am_R 5 i0), (1, am_R 5 i1), (2, am_I v2), (3, am_I v3)], ([], (x, z))) (cvI0 z) (b_X0_moveTo_4 n k i0 i1 v2 v3 x) := by
  intro k
  induction k with
  | zero =>
    intro i0 i1 v2 v3 x
    exact to_0
  | succ k ih =>
    intro i0 i1 v2 v3 x
    rw [b_X0_moveTo_4]
    refine to_if 4 (c := (xF x 5 1 i0) ≤ v3) (p1 := 54) (p2 := 12) (a' := ([(0, am_R 5 i0), (1, am_R 5 i1), (2, am_I v2), (3, am_I v3)], ([], (x, z)))) rfl (fun c_1 => ?_) (fun c_1 => ?_)
    · refine to_fg [0, 2] (lv' := [(0, am_R 5 i0), (2, am_I v2)]) rfl ?_
      exact tb_X0_moveTo_54 (by omega)  i0 v2 x
    · refine to_if 3 (c := (12 : Int32) ≤ v3) (p1 := 54) (p2 := 18) (a' := ([(0, am_R 5 i0), (1, am_R 5 i1), (2, am_I v2), (3, am_I v3)], ([], (x, z)))) rfl (fun c_2 => ?_) (fun c_2 => ?_)
      · refine to_fg [0, 2] (lv' := [(0, am_R 5 i0), (2, am_I v2)]) rfl ?_
        exact tb_X0_moveTo_54 (by omega)  i0 v2 x
      · refine to_cl 2 (lv := [(0, am_R 5 i0), (1, am_R 5 i1), (2, am_I v2), (3, am_I v3)]) (st := []) (M := (x, z)) (cb := (cvI0 z)) rfl (fun q hq => t_X0_hasRoom (by omega) hq) (fun q3 => ?_)
        refine to_if 1 (c := q3.1 = 0) (p1 := 54) (p2 := 25) (a' := ([(0, am_R 5 i0), (1, am_R 5 i1), (2, am_I v2), (3, am_I v3)], ([], (q3.2, z)))) rfl (fun c_4 => ?_) (fun c_4 => ?_)
        · refine to_fg [0, 2] (lv' := [(0, am_R 5 i0), (2, am_I v2)]) rfl ?_
          exact tb_X0_moveTo_54 (by omega)  i0 v2 q3.2
        · refine to_go 4 (pc' := 31) (a' := ([(0, am_R 5 i0), (1, am_R 5 i1), (2, am_I v2), (3, am_I v3)], ([am_I v3, am_R 12 i0, am_R 5 i1], (q3.2, z)))) rfl ?_
          refine to_gd 0 31 (c := am_inB v3 12 = true) (pc' := 32) (a' := ([(0, am_R 5 i0), (1, am_R 5 i1), (2, am_I v2), (3, am_I v3)], ([am_I (xA q3.2 12 i0 (Int32.toNatClampNeg v3)), am_R 5 i1], (q3.2, z)))) rfl rfl (fun c_5 => ?_)
          refine to_gk 1 33 (c := ¬ (3 : Int32) = 0) (pc' := 34) (a' := ([(0, am_R 5 i0), (1, am_R 5 i1), (2, am_I v2), (3, am_I v3)], ([am_I ((xA q3.2 12 i0 (Int32.toNatClampNeg v3)) - (xA q3.2 12 i0 (Int32.toNatClampNeg v3)) / (3 : Int32) * (3 : Int32)), am_R 5 i1], (q3.2, z)))) rfl rfl (by decide) ?_
          refine to_gd 3 39 (c := am_inB v3 12 = true) (pc' := 40) (a' := ([(0, am_R 5 i0), (1, am_R 5 i1), (2, am_I v2), (3, am_I v3)], ([am_I (xA q3.2 12 i0 (Int32.toNatClampNeg v3)), am_I ((xA q3.2 12 i0 (Int32.toNatClampNeg v3)) - (xA q3.2 12 i0 (Int32.toNatClampNeg v3)) / (3 : Int32) * (3 : Int32)), am_R 5 i1], (q3.2, z)))) rfl rfl (fun c_6 => ?_)
          refine to_gk 1 41 (c := ¬ (3 : Int32) = 0) (pc' := 42) (a' := ([(0, am_R 5 i0), (1, am_R 5 i1), (2, am_I v2), (3, am_I v3)], ([am_I ((xA q3.2 12 i0 (Int32.toNatClampNeg v3)) / (3 : Int32)), am_I ((xA q3.2 12 i0 (Int32.toNatClampNeg v3)) - (xA q3.2 12 i0 (Int32.toNatClampNeg v3)) / (3 : Int32) * (3 : Int32)), am_R 5 i1], (q3.2, z)))) rfl rfl (by decide) ?_
          refine to_cl 1 (lv := [(0, am_R 5 i0), (1, am_R 5 i1), (2, am_I v2), (3, am_I v3)]) (st := []) (M := (q3.2, z)) (cb := (cvV0 z)) rfl (fun q hq => t_X0_give (by omega) hq) (fun q7 => ?_)
          refine to_go 3 (pc' := 4) (a' := ([(3, am_I (v3 + (1 : Int32))), (2, am_I (v2 + (1 : Int32))), (0, am_R 5 i0), (1, am_R 5 i1)], ([], (q7, z)))) rfl ?_
          refine to_fg [2, 3, 1, 0] (lv' := [(0, am_R 5 i0), (1, am_R 5 i1), (2, am_I (v2 + (1 : Int32))), (3, am_I (v3 + (1 : Int32)))]) rfl ?_
          exact ih i0 i1 (v2 + (1 : Int32)) (v3 + (1 : Int32)) q7
def f_X0_moveTo (n : Nat) (i0 : Nat) (i1 : Nat) (x : am_X) : Option (Int32 × am_X) := b_X0_moveTo_4 n n i0 i1 (0 : Int32) (0 : Int32) x
theorem t_X0_moveTo {n : Nat} {d : Nat} {i0 : Nat} {i1 : Nat} {x z : am_X} {q : Int32 × am_X} (hd : 2 ≤ d) (h : f_X0_moveTo n i0 i1 x = some q) : am_Ev am_PR d 7 [am_R 5 i0, am_R 5 i1] (x, z) (cvI0 z q) := by
  obtain ⟨d, rfl⟩ : ∃ e, d = e + 1 := ⟨d - 1, by omega⟩
  refine to_ev (P := (am_tab pX0_moveTo)) rfl (lv := [(0, am_R 5 i0), (1, am_R 5 i1)]) rfl ?_ q h
  unfold f_X0_moveTo
  refine to_go 4 (pc' := 4) (a' := ([(3, am_I (0 : Int32)), (2, am_I (0 : Int32)), (0, am_R 5 i0), (1, am_R 5 i1)], ([], (x, z)))) rfl ?_
  refine to_fg [2, 3, 1, 0] (lv' := [(0, am_R 5 i0), (1, am_R 5 i1), (2, am_I (0 : Int32)), (3, am_I (0 : Int32))]) rfl ?_
  exact tb_X0_moveTo_4 (by omega)  n i0 i1 (0 : Int32) (0 : Int32) x
def f_X6_copy (n : Nat) (i0 : Nat) (i1 : Nat) (x : am_X) : Option (am_X) := if am_bz (xF x 4 4 i1) = true then (if am_bz (xF x 4 5 i1) = true then ((f_X0_copy n i0 i1 (sF (sF (sF (sF (sK x i0 (xK x i1)) 4 2 i0 (xF x 4 2 i1)) 4 3 i0 (xF x 4 3 i1)) 4 4 i0 (xF x 4 4 i1)) 4 5 i0 (xF x 4 5 i1))).bind fun q3 => some q3) else none) else none
theorem t_X6_copy {n : Nat} {d : Nat} {i0 : Nat} {i1 : Nat} {x z : am_X} {q : am_X} (hd : 2 ≤ d) (h : f_X6_copy n i0 i1 x = some q) : am_Ev am_PR d 45 [am_R 4 i0, am_R 4 i1] (x, z) (cvV0 z q) := by
  obtain ⟨d, rfl⟩ : ∃ e, d = e + 1 := ⟨d - 1, by omega⟩
  refine to_ev (P := (am_tab pX6_copy)) rfl (lv := [(0, am_R 4 i0), (1, am_R 4 i1)]) rfl ?_ q h
  unfold f_X6_copy
  refine to_go 4 (pc' := 8) (a' := ([(0, am_R 4 i0), (1, am_R 4 i1)], ([], ((sK x i0 (xK x i1)), z)))) rfl ?_
  refine to_go 4 (pc' := 16) (a' := ([(0, am_R 4 i0), (1, am_R 4 i1)], ([], ((sF (sK x i0 (xK x i1)) 4 2 i0 (xF x 4 2 i1)), z)))) rfl ?_
  refine to_go 4 (pc' := 24) (a' := ([(0, am_R 4 i0), (1, am_R 4 i1)], ([], ((sF (sF (sK x i0 (xK x i1)) 4 2 i0 (xF x 4 2 i1)) 4 3 i0 (xF x 4 3 i1)), z)))) rfl ?_
  refine to_gd 3 29 (c := am_bz (xF x 4 4 i1) = true) (pc' := 32) (a' := ([(0, am_R 4 i0), (1, am_R 4 i1)], ([], ((sF (sF (sF (sK x i0 (xK x i1)) 4 2 i0 (xF x 4 2 i1)) 4 3 i0 (xF x 4 3 i1)) 4 4 i0 (xF x 4 4 i1)), z)))) rfl rfl (fun c_1 => ?_)
  refine to_gd 3 37 (c := am_bz (xF x 4 5 i1) = true) (pc' := 40) (a' := ([(0, am_R 4 i0), (1, am_R 4 i1)], ([], ((sF (sF (sF (sF (sK x i0 (xK x i1)) 4 2 i0 (xF x 4 2 i1)) 4 3 i0 (xF x 4 3 i1)) 4 4 i0 (xF x 4 4 i1)) 4 5 i0 (xF x 4 5 i1)), z)))) rfl rfl (fun c_2 => ?_)
  refine to_go 4 (pc' := 48) (a' := ([(0, am_R 4 i0), (1, am_R 4 i1)], ([am_R 5 i1, am_R 5 i0], ((sF (sF (sF (sF (sK x i0 (xK x i1)) 4 2 i0 (xF x 4 2 i1)) 4 3 i0 (xF x 4 3 i1)) 4 4 i0 (xF x 4 4 i1)) 4 5 i0 (xF x 4 5 i1)), z)))) rfl ?_
  refine to_cl 1 (lv := [(0, am_R 4 i0), (1, am_R 4 i1)]) (st := []) (M := ((sF (sF (sF (sF (sK x i0 (xK x i1)) 4 2 i0 (xF x 4 2 i1)) 4 3 i0 (xF x 4 3 i1)) 4 4 i0 (xF x 4 4 i1)) 4 5 i0 (xF x 4 5 i1)), z)) (cb := (cvV0 z)) rfl (fun q hq => t_X0_copy (by omega) hq) (fun q3 => ?_)
  exact to_rt 1 rfl
def f_X3_firstThatCounts (n : Nat) (i0 : Nat) (v1 : Int32) (x : am_X) : Option (Int32 × am_X) := some ((v1 - (xF x 2 3 i0)), x)
theorem t_X3_firstThatCounts {n : Nat} {d : Nat} {i0 : Nat} {v1 : Int32} {x z : am_X} {q : Int32 × am_X} (hd : 1 ≤ d) (h : f_X3_firstThatCounts n i0 v1 x = some q) : am_Ev am_PR d 23 [am_R 2 i0, am_I v1] (x, z) (cvI0 z q) := by
  obtain ⟨d, rfl⟩ : ∃ e, d = e + 1 := ⟨d - 1, by omega⟩
  refine to_ev (P := (am_tab pX3_firstThatCounts)) rfl (lv := [(0, am_R 2 i0), (1, am_I v1)]) rfl ?_ q h
  unfold f_X3_firstThatCounts
  refine to_go 4 (pc' := 6) (a' := ([(0, am_R 2 i0), (1, am_I v1)], ([am_I (v1 - (xF x 2 3 i0))], (x, z)))) rfl ?_
  exact to_rt 1 (r := ((v1 - (xF x 2 3 i0)), x)) rfl
def f_X6_dropLapsed (n : Nat) (i0 : Nat) (v1 : Int32) (i2 : Nat) (x : am_X) : Option (am_X) := (f_X3_firstThatCounts n i2 v1 x).bind fun q1 => (f_X0_dropAheadOf n i0 q1.1 q1.2).bind fun q2 => some q2
theorem t_X6_dropLapsed {n : Nat} {d : Nat} {i0 : Nat} {v1 : Int32} {i2 : Nat} {x z : am_X} {q : am_X} (hd : 2 ≤ d) (h : f_X6_dropLapsed n i0 v1 i2 x = some q) : am_Ev am_PR d 48 [am_R 4 i0, am_I v1, am_R 2 i2] (x, z) (cvV0 z q) := by
  obtain ⟨d, rfl⟩ : ∃ e, d = e + 1 := ⟨d - 1, by omega⟩
  refine to_ev (P := (am_tab pX6_dropLapsed)) rfl (lv := [(0, am_R 4 i0), (1, am_I v1), (2, am_R 2 i2)]) rfl ?_ q h
  unfold f_X6_dropLapsed
  refine to_go 4 (pc' := 6) (a' := ([(0, am_R 4 i0), (1, am_I v1), (2, am_R 2 i2)], ([am_I v1, am_R 2 i2, am_R 5 i0], (x, z)))) rfl ?_
  refine to_cl 1 (lv := [(0, am_R 4 i0), (1, am_I v1), (2, am_R 2 i2)]) (st := [am_R 5 i0]) (M := (x, z)) (cb := (cvI0 z)) rfl (fun q hq => t_X3_firstThatCounts (by omega) hq) (fun q1 => ?_)
  refine to_cl 1 (lv := [(0, am_R 4 i0), (1, am_I v1), (2, am_R 2 i2)]) (st := []) (M := (q1.2, z)) (cb := (cvV0 z)) rfl (fun q hq => t_X0_dropAheadOf (by omega) hq) (fun q2 => ?_)
  exact to_rt 1 rfl
def f_X6_enter (n : Nat) (i0 : Nat) (v1 : Int32) (i2 : Nat) (x : am_X) : Option (am_X) := (f_X6_dropLapsed n i0 v1 i2 (sF x 4 4 i0 (0 : Int32))).bind fun q1 => some q1
theorem t_X6_enter {n : Nat} {d : Nat} {i0 : Nat} {v1 : Int32} {i2 : Nat} {x z : am_X} {q : am_X} (hd : 3 ≤ d) (h : f_X6_enter n i0 v1 i2 x = some q) : am_Ev am_PR d 47 [am_R 4 i0, am_I v1, am_R 2 i2] (x, z) (cvV0 z q) := by
  obtain ⟨d, rfl⟩ : ∃ e, d = e + 1 := ⟨d - 1, by omega⟩
  refine to_ev (P := (am_tab pX6_enter)) rfl (lv := [(0, am_R 4 i0), (1, am_I v1), (2, am_R 2 i2)]) rfl ?_ q h
  unfold f_X6_enter
  refine to_gk 2 2 (c := am_bz (0 : Int32) = true) (pc' := 5) (a' := ([(0, am_R 4 i0), (1, am_I v1), (2, am_R 2 i2)], ([], ((sF x 4 4 i0 (0 : Int32)), z)))) rfl rfl (by decide) ?_
  refine to_cl 4 (lv := [(0, am_R 4 i0), (1, am_I v1), (2, am_R 2 i2)]) (st := []) (M := ((sF x 4 4 i0 (0 : Int32)), z)) (cb := (cvV0 z)) rfl (fun q hq => t_X6_dropLapsed (by omega) hq) (fun q1 => ?_)
  exact to_rt 1 rfl
def f_X8_isDeed (n : Nat) (v0 : Int32) (x : am_X) : Option (Int32 × am_X) := if v0 < 0 then (some ((0 : Int32), x)) else (if (4 : Int32) ≤ v0 then (some ((0 : Int32), x)) else (some ((1 : Int32), x)))
theorem t_X8_isDeed {n : Nat} {d : Nat} {v0 : Int32} {x z : am_X} {q : Int32 × am_X} (hd : 1 ≤ d) (h : f_X8_isDeed n v0 x = some q) : am_Ev am_PR d 102 [am_I v0] (x, z) (cvI0 z q) := by
  obtain ⟨d, rfl⟩ : ∃ e, d = e + 1 := ⟨d - 1, by omega⟩
  refine to_ev (P := (am_tab pX8_isDeed)) rfl (lv := [(0, am_I v0)]) rfl ?_ q h
  unfold f_X8_isDeed
  refine to_if 2 (c := v0 < 0) (p1 := 13) (p2 := 4) (a' := ([(0, am_I v0)], ([], (x, z)))) rfl (fun c_1 => ?_) (fun c_1 => ?_)
  · exact to_rk 1 14 (c := am_bz (0 : Int32) = true) (r := ((0 : Int32), x)) rfl rfl (by decide)
  · refine to_if 3 (c := (4 : Int32) ≤ v0) (p1 := 13) (p2 := 9) (a' := ([(0, am_I v0)], ([], (x, z)))) rfl (fun c_2 => ?_) (fun c_2 => ?_)
    · exact to_rk 1 14 (c := am_bz (0 : Int32) = true) (r := ((0 : Int32), x)) rfl rfl (by decide)
    · exact to_rk 2 14 (c := am_bz (1 : Int32) = true) (r := ((1 : Int32), x)) rfl rfl (by decide)
def f_X3_worthOf (n : Nat) (i0 : Nat) (v1 : Int32) (x : am_X) : Option (Int32 × am_X) := (f_X8_isDeed n v1 x).bind fun q1 => if q1.1 = 0 then (some ((0 : Int32), q1.2)) else (if am_inB v1 4 = true then (some ((xA q1.2 10 i0 (Int32.toNatClampNeg v1)), q1.2)) else none)
theorem t_X3_worthOf {n : Nat} {d : Nat} {i0 : Nat} {v1 : Int32} {x z : am_X} {q : Int32 × am_X} (hd : 2 ≤ d) (h : f_X3_worthOf n i0 v1 x = some q) : am_Ev am_PR d 20 [am_R 2 i0, am_I v1] (x, z) (cvI0 z q) := by
  obtain ⟨d, rfl⟩ : ∃ e, d = e + 1 := ⟨d - 1, by omega⟩
  refine to_ev (P := (am_tab pX3_worthOf)) rfl (lv := [(0, am_R 2 i0), (1, am_I v1)]) rfl ?_ q h
  unfold f_X3_worthOf
  refine to_cl 2 (lv := [(0, am_R 2 i0), (1, am_I v1)]) (st := []) (M := (x, z)) (cb := (cvI0 z)) rfl (fun q hq => t_X8_isDeed (by omega) hq) (fun q1 => ?_)
  refine to_if 1 (c := q1.1 = 0) (p1 := 16) (p2 := 7) (a' := ([(0, am_R 2 i0), (1, am_I v1)], ([], (q1.2, z)))) rfl (fun c_2 => ?_) (fun c_2 => ?_)
  · exact to_rt 2 (r := ((0 : Int32), q1.2)) rfl
  · refine to_gd 3 12 (c := am_inB v1 4 = true) (pc' := 13) (a' := ([(0, am_R 2 i0), (1, am_I v1)], ([am_I (xA q1.2 10 i0 (Int32.toNatClampNeg v1))], (q1.2, z)))) rfl rfl (fun c_3 => ?_)
    exact to_rt 2 (r := ((xA q1.2 10 i0 (Int32.toNatClampNeg v1)), q1.2)) rfl
def f_X2_gets (n : Nat) (i0 : Nat) (v1 : Int32) (x : am_X) : Option (Int32 × am_X) := some ((v1 + (List.getD [0, 0, 0, 1, 1] i0 0)), x)
theorem t_X2_gets {n : Nat} {d : Nat} {i0 : Nat} {v1 : Int32} {x z : am_X} {q : Int32 × am_X} (hd : 1 ≤ d) (h : f_X2_gets n i0 v1 x = some q) : am_Ev am_PR d 16 [am_R 20 i0, am_I v1] (x, z) (cvI0 z q) := by
  obtain ⟨d, rfl⟩ : ∃ e, d = e + 1 := ⟨d - 1, by omega⟩
  refine to_ev (P := (am_tab pX2_gets)) rfl (lv := [(0, am_R 20 i0), (1, am_I v1)]) rfl ?_ q h
  unfold f_X2_gets
  refine to_go 4 (pc' := 6) (a' := ([(0, am_R 20 i0), (1, am_I v1)], ([am_I (v1 + (List.getD [0, 0, 0, 1, 1] i0 0))], (x, z)))) rfl ?_
  exact to_rt 1 (r := ((v1 + (List.getD [0, 0, 0, 1, 1] i0 0)), x)) rfl
def f_X3_termOf (n : Nat) (i0 : Nat) (v1 : Int32) (x : am_X) : Option (Int32 × am_X) := (f_X8_isDeed n v1 x).bind fun q1 => if q1.1 = 0 then (some ((0 : Int32), q1.2)) else (if am_inB v1 4 = true then (some ((xA q1.2 9 i0 (Int32.toNatClampNeg v1)), q1.2)) else none)
theorem t_X3_termOf {n : Nat} {d : Nat} {i0 : Nat} {v1 : Int32} {x z : am_X} {q : Int32 × am_X} (hd : 2 ≤ d) (h : f_X3_termOf n i0 v1 x = some q) : am_Ev am_PR d 19 [am_R 2 i0, am_I v1] (x, z) (cvI0 z q) := by
  obtain ⟨d, rfl⟩ : ∃ e, d = e + 1 := ⟨d - 1, by omega⟩
  refine to_ev (P := (am_tab pX3_termOf)) rfl (lv := [(0, am_R 2 i0), (1, am_I v1)]) rfl ?_ q h
  unfold f_X3_termOf
  refine to_cl 2 (lv := [(0, am_R 2 i0), (1, am_I v1)]) (st := []) (M := (x, z)) (cb := (cvI0 z)) rfl (fun q hq => t_X8_isDeed (by omega) hq) (fun q1 => ?_)
  refine to_if 1 (c := q1.1 = 0) (p1 := 16) (p2 := 7) (a' := ([(0, am_R 2 i0), (1, am_I v1)], ([], (q1.2, z)))) rfl (fun c_2 => ?_) (fun c_2 => ?_)
  · exact to_rt 2 (r := ((0 : Int32), q1.2)) rfl
  · refine to_gd 3 12 (c := am_inB v1 4 = true) (pc' := 13) (a' := ([(0, am_R 2 i0), (1, am_I v1)], ([am_I (xA q1.2 9 i0 (Int32.toNatClampNeg v1))], (q1.2, z)))) rfl rfl (fun c_3 => ?_)
    exact to_rt 2 (r := ((xA q1.2 9 i0 (Int32.toNatClampNeg v1)), q1.2)) rfl
def f_X2_needs (n : Nat) (i0 : Nat) (v1 : Int32) (x : am_X) : Option (Int32 × am_X) := some ((if (1 : Int32) < (v1 - (List.getD [0, 1, 0, 0, 0] i0 0)) then (v1 - (List.getD [0, 1, 0, 0, 0] i0 0)) else (1 : Int32)), x)
theorem t_X2_needs {n : Nat} {d : Nat} {i0 : Nat} {v1 : Int32} {x z : am_X} {q : Int32 × am_X} (hd : 1 ≤ d) (h : f_X2_needs n i0 v1 x = some q) : am_Ev am_PR d 15 [am_R 20 i0, am_I v1] (x, z) (cvI0 z q) := by
  obtain ⟨d, rfl⟩ : ∃ e, d = e + 1 := ⟨d - 1, by omega⟩
  refine to_ev (P := (am_tab pX2_needs)) rfl (lv := [(0, am_R 20 i0), (1, am_I v1)]) rfl ?_ q h
  unfold f_X2_needs
  refine to_go 4 (pc' := 6) (a' := ([(0, am_R 20 i0), (1, am_I v1)], ([am_I (List.getD [0, 1, 0, 0, 0] i0 0), am_I v1, am_I (1 : Int32)], (x, z)))) rfl ?_
  exact to_rt 3 (r := ((if (1 : Int32) < (v1 - (List.getD [0, 1, 0, 0, 0] i0 0)) then (v1 - (List.getD [0, 1, 0, 0, 0] i0 0)) else (1 : Int32)), x)) rfl
def f_X3_sortsOf (n : Nat) (i0 : Nat) (v1 : Int32) (x : am_X) : Option (Int32 × am_X) := (f_X8_isDeed n v1 x).bind fun q1 => if q1.1 = 0 then (some ((0 : Int32), q1.2)) else (if am_inB v1 4 = true then (some ((xA q1.2 11 i0 (Int32.toNatClampNeg v1)), q1.2)) else none)
theorem t_X3_sortsOf {n : Nat} {d : Nat} {i0 : Nat} {v1 : Int32} {x z : am_X} {q : Int32 × am_X} (hd : 2 ≤ d) (h : f_X3_sortsOf n i0 v1 x = some q) : am_Ev am_PR d 21 [am_R 2 i0, am_I v1] (x, z) (cvI0 z q) := by
  obtain ⟨d, rfl⟩ : ∃ e, d = e + 1 := ⟨d - 1, by omega⟩
  refine to_ev (P := (am_tab pX3_sortsOf)) rfl (lv := [(0, am_R 2 i0), (1, am_I v1)]) rfl ?_ q h
  unfold f_X3_sortsOf
  refine to_cl 2 (lv := [(0, am_R 2 i0), (1, am_I v1)]) (st := []) (M := (x, z)) (cb := (cvI0 z)) rfl (fun q hq => t_X8_isDeed (by omega) hq) (fun q1 => ?_)
  refine to_if 1 (c := q1.1 = 0) (p1 := 16) (p2 := 7) (a' := ([(0, am_R 2 i0), (1, am_I v1)], ([], (q1.2, z)))) rfl (fun c_2 => ?_) (fun c_2 => ?_)
  · exact to_rt 2 (r := ((0 : Int32), q1.2)) rfl
  · refine to_gd 3 12 (c := am_inB v1 4 = true) (pc' := 13) (a' := ([(0, am_R 2 i0), (1, am_I v1)], ([am_I (xA q1.2 11 i0 (Int32.toNatClampNeg v1))], (q1.2, z)))) rfl rfl (fun c_3 => ?_)
    exact to_rt 2 (r := ((xA q1.2 11 i0 (Int32.toNatClampNeg v1)), q1.2)) rfl
def b_X1_mostStill_143 (n : Nat) (h45 : Nat → Nat → Int32 → Int32 → Int32 → Int32 → Int32 → Int32 → am_X → Option (Int32 × am_X)) (i0 : Nat) (i2 : Nat) (v3 : Int32) (v4 : Int32) (v5 : Int32) (v6 : Int32) (v7 : Int32) (v8 : Int32) (x : am_X) : Option (Int32 × am_X) := h45 i0 i2 v3 v4 v5 v6 v7 (v8 + (1 : Int32)) x
theorem tb_X1_mostStill_143 {n : Nat} {h45 : Nat → Nat → Int32 → Int32 → Int32 → Int32 → Int32 → Int32 → am_X → Option (Int32 × am_X)} {d : Nat} {z : am_X} (hd : 2 ≤ d) (hh45 : ∀ (i0 : Nat) (i2 : Nat) (v3 : Int32) (v4 : Int32) (v5 : Int32) (v6 : Int32) (v7 : Int32) (v8 : Int32) (x : am_X), am_To d (am_tab pX1_mostStill) 45 ([(0, am_R 4 i0), (2, am_R 2 i2), (3, am_I v3), (4, am_I v4), (5, am_I v5), (6, am_I v6), (7, am_I v7), (8, am_I v8)], ([], (x, z))) (cvI0 z) (h45 i0 i2 v3 v4 v5 v6 v7 v8 x)) (i0 : Nat) (i2 : Nat) (v3 : Int32) (v4 : Int32) (v5 : Int32) (v6 : Int32) (v7 : Int32) (v8 : Int32) (x : am_X) : am_To d (am_tab pX1_mostStill) 143 ([(0, am_R 4 i0), (2, am_R 2 i2), (3, am_I v3), (4, am_I v4), (5, am_I v5), (6, am_I v6), (7, am_I v7), (8, am_I v8)], ([], (x, z))) (cvI0 z) (b_X1_mostStill_143 n h45 i0 i2 v3 v4 v5 v6 v7 v8 x) := by
  unfold b_X1_mostStill_143
  refine to_go 2 (pc' := 45) (a' := ([(8, am_I (v8 + (1 : Int32))), (0, am_R 4 i0), (2, am_R 2 i2), (3, am_I v3), (4, am_I v4), (5, am_I v5), (6, am_I v6), (7, am_I v7)], ([], (x, z)))) rfl ?_
  refine to_fg [1, 2, 3, 4, 5, 6, 7, 0] (lv' := [(0, am_R 4 i0), (2, am_R 2 i2), (3, am_I v3), (4, am_I v4), (5, am_I v5), (6, am_I v6), (7, am_I v7), (8, am_I (v8 + (1 : Int32)))]) rfl ?_
  exact hh45 i0 i2 v3 v4 v5 v6 v7 (v8 + (1 : Int32)) x
def b_X1_mostStill_45 (n : Nat) : Nat → Nat → Nat → Int32 → Int32 → Int32 → Int32 → Int32 → Int32 → am_X → Option (Int32 × am_X)
  | 0, _, _, _, _, _, _, _, _, _ => none
  | k + 1, i0, i2, v3, v4, v5, v6, v7, v8, x => if (4 : Int32) ≤ v8 then (some ((if v7 < v6 then v7 else v6), x)) else ((f_X3_worthOf n i2 v8 x).bind fun q2 => (f_X2_gets n (xK x i0) q2.1 q2.2).bind fun q3 => (f_X3_termOf n i2 v8 q3.2).bind fun q4 => (f_X2_needs n (xK q3.2 i0) q4.1 q4.2).bind fun q5 => (f_X3_sortsOf n i2 v8 q5.2).bind fun q6 => (f_X0_howMany n i0 q6.1 (0 : Int32) q6.2).bind fun q7 => if (q5.1 + v4) ≤ 0 then (b_X1_mostStill_143 n (b_X1_mostStill_45 n k) i0 i2 v3 v4 v5 v6 v7 v8 q7.2) else (if (q7.1 + (v4 * v3)) < (q5.1 + v4) then (b_X1_mostStill_143 n (b_X1_mostStill_45 n k) i0 i2 v3 v4 v5 v6 v7 v8 q7.2) else (if ¬ (q5.1 + v4) = 0 then (b_X1_mostStill_143 n (b_X1_mostStill_45 n k) i0 i2 v3 v4 v5 (if v6 < ((v5 * q3.1) / (q5.1 + v4)) then ((v5 * q3.1) / (q5.1 + v4)) else v6) (if v7 < (q3.1 * v3) then (q3.1 * v3) else v7) v8 q7.2) else none)))
theorem tb_X1_mostStill_45 {n : Nat} {d : Nat} {z : am_X} (hd : 2 ≤ d) : ∀ (k : Nat) (i0 : Nat) (i2 : Nat) (v3 : Int32) (v4 : Int32) (v5 : Int32) (v6 : Int32) (v7 : Int32) (v8 : Int32) (x : am_X), am_To d (am_tab pX1_mostStill) 45 ([(0, am_R 4 i0), (2, am_R 2 i2), (3, am_I v3), (4, am_I v4), (5, am_I v5), (6, am_I v6), (7, am_I v7), (8, am_I v8)], ([], (x, z))) (cvI0 z) (b_X1_mostStill_45 n k i0 i2 v3 v4 v5 v6 v7 v8 x) := by
  intro k
  induction k with
  | zero =>
    intro i0 i2 v3 v4 v5 v6 v7 v8 x
    exact to_0
  | succ k ih =>
    intro i0 i2 v3 v4 v5 v6 v7 v8 x
    rw [b_X1_mostStill_45]
    refine to_if 3 (c := (4 : Int32) ≤ v8) (p1 := 149) (p2 := 51) (a' := ([(0, am_R 4 i0), (2, am_R 2 i2), (3, am_I v3), (4, am_I v4), (5, am_I v5), (6, am_I v6), (7, am_I v7), (8, am_I v8)], ([], (x, z)))) rfl (fun c_1 => ?_) (fun c_1 => ?_)
    · exact to_rt 4 (r := ((if v7 < v6 then v7 else v6), x)) rfl
    · refine to_go 4 (pc' := 58) (a' := ([(0, am_R 4 i0), (2, am_R 2 i2), (3, am_I v3), (4, am_I v4), (5, am_I v5), (6, am_I v6), (7, am_I v7), (8, am_I v8)], ([am_I v8, am_R 2 i2, am_R 20 (xK x i0)], (x, z)))) rfl ?_
      refine to_cl 1 (lv := [(0, am_R 4 i0), (2, am_R 2 i2), (3, am_I v3), (4, am_I v4), (5, am_I v5), (6, am_I v6), (7, am_I v7), (8, am_I v8)]) (st := [am_R 20 (xK x i0)]) (M := (x, z)) (cb := (cvI0 z)) rfl (fun q hq => t_X3_worthOf (by omega) hq) (fun q2 => ?_)
      refine to_cl 1 (lv := [(0, am_R 4 i0), (2, am_R 2 i2), (3, am_I v3), (4, am_I v4), (5, am_I v5), (6, am_I v6), (7, am_I v7), (8, am_I v8)]) (st := []) (M := (q2.2, z)) (cb := (cvI0 z)) rfl (fun q hq => t_X2_gets (by omega) hq) (fun q3 => ?_)
      refine to_go 4 (pc' := 71) (a' := ([(9, am_I q3.1), (0, am_R 4 i0), (2, am_R 2 i2), (3, am_I v3), (4, am_I v4), (5, am_I v5), (6, am_I v6), (7, am_I v7), (8, am_I v8)], ([am_R 2 i2, am_R 20 (xK q3.2 i0)], (q3.2, z)))) rfl ?_
      refine to_cl 2 (lv := [(9, am_I q3.1), (0, am_R 4 i0), (2, am_R 2 i2), (3, am_I v3), (4, am_I v4), (5, am_I v5), (6, am_I v6), (7, am_I v7), (8, am_I v8)]) (st := [am_R 20 (xK q3.2 i0)]) (M := (q3.2, z)) (cb := (cvI0 z)) rfl (fun q hq => t_X3_termOf (by omega) hq) (fun q4 => ?_)
      refine to_cl 1 (lv := [(9, am_I q3.1), (0, am_R 4 i0), (2, am_R 2 i2), (3, am_I v3), (4, am_I v4), (5, am_I v5), (6, am_I v6), (7, am_I v7), (8, am_I v8)]) (st := []) (M := (q4.2, z)) (cb := (cvI0 z)) rfl (fun q hq => t_X2_needs (by omega) hq) (fun q5 => ?_)
      refine to_go 4 (pc' := 85) (a' := ([(10, am_I (q5.1 + v4)), (9, am_I q3.1), (0, am_R 4 i0), (2, am_R 2 i2), (3, am_I v3), (4, am_I v4), (5, am_I v5), (6, am_I v6), (7, am_I v7), (8, am_I v8)], ([am_R 4 i0], (q5.2, z)))) rfl ?_
      refine to_cl 4 (lv := [(10, am_I (q5.1 + v4)), (9, am_I q3.1), (0, am_R 4 i0), (2, am_R 2 i2), (3, am_I v3), (4, am_I v4), (5, am_I v5), (6, am_I v6), (7, am_I v7), (8, am_I v8)]) (st := [am_R 5 i0]) (M := (q5.2, z)) (cb := (cvI0 z)) rfl (fun q hq => t_X3_sortsOf (by omega) hq) (fun q6 => ?_)
      refine to_cl 2 (lv := [(10, am_I (q5.1 + v4)), (9, am_I q3.1), (0, am_R 4 i0), (2, am_R 2 i2), (3, am_I v3), (4, am_I v4), (5, am_I v5), (6, am_I v6), (7, am_I v7), (8, am_I v8)]) (st := []) (M := (q6.2, z)) (cb := (cvI0 z)) rfl (fun q hq => t_X0_howMany (by omega) hq) (fun q7 => ?_)
      refine to_go 4 (pc' := 103) (a' := ([(10, am_I (q5.1 + v4)), (9, am_I q3.1), (0, am_R 4 i0), (2, am_R 2 i2), (3, am_I v3), (4, am_I v4), (5, am_I v5), (6, am_I v6), (7, am_I v7), (8, am_I v8)], ([am_I (q7.1 + (v4 * v3))], (q7.2, z)))) rfl ?_
      refine to_if 3 (c := (q5.1 + v4) ≤ 0) (p1 := 143) (p2 := 110) (a' := ([(11, am_I (q7.1 + (v4 * v3))), (10, am_I (q5.1 + v4)), (9, am_I q3.1), (0, am_R 4 i0), (2, am_R 2 i2), (3, am_I v3), (4, am_I v4), (5, am_I v5), (6, am_I v6), (7, am_I v7), (8, am_I v8)], ([], (q7.2, z)))) rfl (fun c_8 => ?_) (fun c_8 => ?_)
      · refine to_fg [3, 4, 5, 6, 7, 8, 9, 10] (lv' := [(0, am_R 4 i0), (2, am_R 2 i2), (3, am_I v3), (4, am_I v4), (5, am_I v5), (6, am_I v6), (7, am_I v7), (8, am_I v8)]) rfl ?_
        exact tb_X1_mostStill_143 (by omega) ih  i0 i2 v3 v4 v5 v6 v7 v8 q7.2
      · refine to_if 3 (c := (q7.1 + (v4 * v3)) < (q5.1 + v4)) (p1 := 143) (p2 := 117) (a' := ([(11, am_I (q7.1 + (v4 * v3))), (10, am_I (q5.1 + v4)), (9, am_I q3.1), (0, am_R 4 i0), (2, am_R 2 i2), (3, am_I v3), (4, am_I v4), (5, am_I v5), (6, am_I v6), (7, am_I v7), (8, am_I v8)], ([], (q7.2, z)))) rfl (fun c_9 => ?_) (fun c_9 => ?_)
        · refine to_fg [3, 4, 5, 6, 7, 8, 9, 10] (lv' := [(0, am_R 4 i0), (2, am_R 2 i2), (3, am_I v3), (4, am_I v4), (5, am_I v5), (6, am_I v6), (7, am_I v7), (8, am_I v8)]) rfl ?_
          exact tb_X1_mostStill_143 (by omega) ih  i0 i2 v3 v4 v5 v6 v7 v8 q7.2
        · refine to_go 4 (pc' := 124) (a' := ([(11, am_I (q7.1 + (v4 * v3))), (10, am_I (q5.1 + v4)), (9, am_I q3.1), (0, am_R 4 i0), (2, am_R 2 i2), (3, am_I v3), (4, am_I v4), (5, am_I v5), (6, am_I v6), (7, am_I v7), (8, am_I v8)], ([am_I (v5 * q3.1), am_I v6], (q7.2, z)))) rfl ?_
          refine to_gd 1 126 (c := ¬ (q5.1 + v4) = 0) (pc' := 127) (a' := ([(11, am_I (q7.1 + (v4 * v3))), (10, am_I (q5.1 + v4)), (9, am_I q3.1), (0, am_R 4 i0), (2, am_R 2 i2), (3, am_I v3), (4, am_I v4), (5, am_I v5), (6, am_I v6), (7, am_I v7), (8, am_I v8)], ([am_I ((v5 * q3.1) / (q5.1 + v4)), am_I v6], (q7.2, z)))) rfl rfl (fun c_10 => ?_)
          refine to_go 4 (pc' := 136) (a' := ([(6, am_I (if v6 < ((v5 * q3.1) / (q5.1 + v4)) then ((v5 * q3.1) / (q5.1 + v4)) else v6)), (11, am_I (q7.1 + (v4 * v3))), (10, am_I (q5.1 + v4)), (9, am_I q3.1), (0, am_R 4 i0), (2, am_R 2 i2), (3, am_I v3), (4, am_I v4), (5, am_I v5), (7, am_I v7), (8, am_I v8)], ([am_I q3.1, am_I v7], (q7.2, z)))) rfl ?_
          refine to_go 4 (pc' := 143) (a' := ([(7, am_I (if v7 < (q3.1 * v3) then (q3.1 * v3) else v7)), (6, am_I (if v6 < ((v5 * q3.1) / (q5.1 + v4)) then ((v5 * q3.1) / (q5.1 + v4)) else v6)), (11, am_I (q7.1 + (v4 * v3))), (10, am_I (q5.1 + v4)), (9, am_I q3.1), (0, am_R 4 i0), (2, am_R 2 i2), (3, am_I v3), (4, am_I v4), (5, am_I v5), (8, am_I v8)], ([], (q7.2, z)))) rfl ?_
          refine to_fg [5, 6, 7, 8, 9, 1, 0, 10] (lv' := [(0, am_R 4 i0), (2, am_R 2 i2), (3, am_I v3), (4, am_I v4), (5, am_I v5), (6, am_I (if v6 < ((v5 * q3.1) / (q5.1 + v4)) then ((v5 * q3.1) / (q5.1 + v4)) else v6)), (7, am_I (if v7 < (q3.1 * v3) then (q3.1 * v3) else v7)), (8, am_I v8)]) rfl ?_
          exact tb_X1_mostStill_143 (by omega) ih  i0 i2 v3 v4 v5 (if v6 < ((v5 * q3.1) / (q5.1 + v4)) then ((v5 * q3.1) / (q5.1 + v4)) else v6) (if v7 < (q3.1 * v3) then (q3.1 * v3) else v7) v8 q7.2
def f_X1_mostStill (n : Nat) (i0 : Nat) (v1 : Int32) (i2 : Nat) (x : am_X) : Option (Int32 × am_X) := if 0 < (v1 - (xF x 4 3 i0)) then (b_X1_mostStill_45 n n i0 i2 (v1 - (xF x 4 3 i0)) (List.getD [1, 1, 2, 1, 1] (xK x i0) 0) ((xF x 5 1 i0) + ((List.getD [1, 1, 2, 1, 1] (xK x i0) 0) * (v1 - (xF x 4 3 i0)))) (0 : Int32) (0 : Int32) (0 : Int32) x) else (some ((0 : Int32), x))
theorem t_X1_mostStill {n : Nat} {d : Nat} {i0 : Nat} {v1 : Int32} {i2 : Nat} {x z : am_X} {q : Int32 × am_X} (hd : 3 ≤ d) (h : f_X1_mostStill n i0 v1 i2 x = some q) : am_Ev am_PR d 11 [am_R 4 i0, am_I v1, am_R 2 i2] (x, z) (cvI0 z q) := by
  obtain ⟨d, rfl⟩ : ∃ e, d = e + 1 := ⟨d - 1, by omega⟩
  refine to_ev (P := (am_tab pX1_mostStill)) rfl (lv := [(0, am_R 4 i0), (1, am_I v1), (2, am_R 2 i2)]) rfl ?_ q h
  unfold f_X1_mostStill
  refine to_go 4 (pc' := 6) (a' := ([(0, am_R 4 i0), (1, am_I v1), (2, am_R 2 i2)], ([am_I (v1 - (xF x 4 3 i0))], (x, z)))) rfl ?_
  refine to_if 3 (c := 0 < (v1 - (xF x 4 3 i0))) (p1 := 13) (p2 := 11) (a' := ([(3, am_I (v1 - (xF x 4 3 i0))), (0, am_R 4 i0), (1, am_I v1), (2, am_R 2 i2)], ([], (x, z)))) rfl (fun c_1 => ?_) (fun c_1 => ?_)
  · refine to_go 4 (pc' := 22) (a' := ([(4, am_I (List.getD [1, 1, 2, 1, 1] (xK x i0) 0)), (3, am_I (v1 - (xF x 4 3 i0))), (0, am_R 4 i0), (1, am_I v1), (2, am_R 2 i2)], ([], (x, z)))) rfl ?_
    refine to_go 4 (pc' := 31) (a' := ([(4, am_I (List.getD [1, 1, 2, 1, 1] (xK x i0) 0)), (3, am_I (v1 - (xF x 4 3 i0))), (0, am_R 4 i0), (1, am_I v1), (2, am_R 2 i2)], ([am_I (List.getD [1, 1, 2, 1, 1] (xK x i0) 0), am_I (xF x 5 1 i0)], (x, z)))) rfl ?_
    refine to_go 4 (pc' := 36) (a' := ([(5, am_I ((xF x 5 1 i0) + ((List.getD [1, 1, 2, 1, 1] (xK x i0) 0) * (v1 - (xF x 4 3 i0))))), (4, am_I (List.getD [1, 1, 2, 1, 1] (xK x i0) 0)), (3, am_I (v1 - (xF x 4 3 i0))), (0, am_R 4 i0), (1, am_I v1), (2, am_R 2 i2)], ([], (x, z)))) rfl ?_
    refine to_go 4 (pc' := 42) (a' := ([(7, am_I (0 : Int32)), (6, am_I (0 : Int32)), (5, am_I ((xF x 5 1 i0) + ((List.getD [1, 1, 2, 1, 1] (xK x i0) 0) * (v1 - (xF x 4 3 i0))))), (4, am_I (List.getD [1, 1, 2, 1, 1] (xK x i0) 0)), (3, am_I (v1 - (xF x 4 3 i0))), (0, am_R 4 i0), (1, am_I v1), (2, am_R 2 i2)], ([], (x, z)))) rfl ?_
    refine to_go 2 (pc' := 45) (a' := ([(8, am_I (0 : Int32)), (7, am_I (0 : Int32)), (6, am_I (0 : Int32)), (5, am_I ((xF x 5 1 i0) + ((List.getD [1, 1, 2, 1, 1] (xK x i0) 0) * (v1 - (xF x 4 3 i0))))), (4, am_I (List.getD [1, 1, 2, 1, 1] (xK x i0) 0)), (3, am_I (v1 - (xF x 4 3 i0))), (0, am_R 4 i0), (1, am_I v1), (2, am_R 2 i2)], ([], (x, z)))) rfl ?_
    refine to_fg [6, 8, 5, 4, 3, 2, 1, 0] (lv' := [(0, am_R 4 i0), (2, am_R 2 i2), (3, am_I (v1 - (xF x 4 3 i0))), (4, am_I (List.getD [1, 1, 2, 1, 1] (xK x i0) 0)), (5, am_I ((xF x 5 1 i0) + ((List.getD [1, 1, 2, 1, 1] (xK x i0) 0) * (v1 - (xF x 4 3 i0))))), (6, am_I (0 : Int32)), (7, am_I (0 : Int32)), (8, am_I (0 : Int32))]) rfl ?_
    exact tb_X1_mostStill_45 (by omega)  n i0 i2 (v1 - (xF x 4 3 i0)) (List.getD [1, 1, 2, 1, 1] (xK x i0) 0) ((xF x 5 1 i0) + ((List.getD [1, 1, 2, 1, 1] (xK x i0) 0) * (v1 - (xF x 4 3 i0)))) (0 : Int32) (0 : Int32) (0 : Int32) x
  · exact to_rt 2 (r := ((0 : Int32), x)) rfl
def f_X8_actAt (n : Nat) (v0 : Int32) (x : am_X) : Option (Int32 × am_X) := if v0 < 0 then (some ((9 : Int32), x)) else (if (11 : Int32) ≤ v0 then (some ((9 : Int32), x)) else (if am_inB v0 11 = true then (some ((List.getD am_acts (Int32.toNatClampNeg v0) 0), x)) else none))
theorem t_X8_actAt {n : Nat} {d : Nat} {v0 : Int32} {x z : am_X} {q : Int32 × am_X} (hd : 1 ≤ d) (h : f_X8_actAt n v0 x = some q) : am_Ev am_PR d 107 [am_I v0] (x, z) (cvI0 z q) := by
  obtain ⟨d, rfl⟩ : ∃ e, d = e + 1 := ⟨d - 1, by omega⟩
  refine to_ev (P := (am_tab pX8_actAt)) rfl (lv := [(0, am_I v0)]) rfl ?_ q h
  unfold f_X8_actAt
  refine to_if 2 (c := v0 < 0) (p1 := 20) (p2 := 4) (a' := ([(0, am_I v0)], ([], (x, z)))) rfl (fun c_1 => ?_) (fun c_1 => ?_)
  · exact to_rt 2 (r := ((9 : Int32), x)) rfl
  · refine to_if 4 (c := (11 : Int32) ≤ v0) (p1 := 20) (p2 := 12) (a' := ([(0, am_I v0)], ([], (x, z)))) rfl (fun c_2 => ?_) (fun c_2 => ?_)
    · exact to_rt 2 (r := ((9 : Int32), x)) rfl
    · refine to_gd 2 16 (c := am_inB v0 11 = true) (pc' := 17) (a' := ([(0, am_I v0)], ([am_I (List.getD am_acts (Int32.toNatClampNeg v0) 0)], (x, z)))) rfl rfl (fun c_3 => ?_)
      exact to_rt 2 (r := ((List.getD am_acts (Int32.toNatClampNeg v0) 0), x)) rfl
def f_X8_isServing (n : Nat) (v0 : Int32) (x : am_X) : Option (Int32 × am_X) := if v0 < 0 then (some ((0 : Int32), x)) else (if (3 : Int32) ≤ v0 then (some ((0 : Int32), x)) else (some ((1 : Int32), x)))
theorem t_X8_isServing {n : Nat} {d : Nat} {v0 : Int32} {x z : am_X} {q : Int32 × am_X} (hd : 1 ≤ d) (h : f_X8_isServing n v0 x = some q) : am_Ev am_PR d 103 [am_I v0] (x, z) (cvI0 z q) := by
  obtain ⟨d, rfl⟩ : ∃ e, d = e + 1 := ⟨d - 1, by omega⟩
  refine to_ev (P := (am_tab pX8_isServing)) rfl (lv := [(0, am_I v0)]) rfl ?_ q h
  unfold f_X8_isServing
  refine to_if 2 (c := v0 < 0) (p1 := 13) (p2 := 4) (a' := ([(0, am_I v0)], ([], (x, z)))) rfl (fun c_1 => ?_) (fun c_1 => ?_)
  · exact to_rk 1 14 (c := am_bz (0 : Int32) = true) (r := ((0 : Int32), x)) rfl rfl (by decide)
  · refine to_if 3 (c := (3 : Int32) ≤ v0) (p1 := 13) (p2 := 9) (a' := ([(0, am_I v0)], ([], (x, z)))) rfl (fun c_2 => ?_) (fun c_2 => ?_)
    · exact to_rk 1 14 (c := am_bz (0 : Int32) = true) (r := ((0 : Int32), x)) rfl rfl (by decide)
    · exact to_rk 2 14 (c := am_bz (1 : Int32) = true) (r := ((1 : Int32), x)) rfl rfl (by decide)
def f_X8_isCoveredDeed (n : Nat) (v0 : Int32) (x : am_X) : Option (Int32 × am_X) := if v0 < (10 : Int32) then (some ((0 : Int32), x)) else (if (14 : Int32) ≤ v0 then (some ((0 : Int32), x)) else (some ((1 : Int32), x)))
theorem t_X8_isCoveredDeed {n : Nat} {d : Nat} {v0 : Int32} {x z : am_X} {q : Int32 × am_X} (hd : 1 ≤ d) (h : f_X8_isCoveredDeed n v0 x = some q) : am_Ev am_PR d 104 [am_I v0] (x, z) (cvI0 z q) := by
  obtain ⟨d, rfl⟩ : ∃ e, d = e + 1 := ⟨d - 1, by omega⟩
  refine to_ev (P := (am_tab pX8_isCoveredDeed)) rfl (lv := [(0, am_I v0)]) rfl ?_ q h
  unfold f_X8_isCoveredDeed
  refine to_if 3 (c := v0 < (10 : Int32)) (p1 := 16) (p2 := 6) (a' := ([(0, am_I v0)], ([], (x, z)))) rfl (fun c_1 => ?_) (fun c_1 => ?_)
  · exact to_rk 1 17 (c := am_bz (0 : Int32) = true) (r := ((0 : Int32), x)) rfl rfl (by decide)
  · refine to_if 3 (c := (14 : Int32) ≤ v0) (p1 := 16) (p2 := 12) (a' := ([(0, am_I v0)], ([], (x, z)))) rfl (fun c_2 => ?_) (fun c_2 => ?_)
    · exact to_rk 1 17 (c := am_bz (0 : Int32) = true) (r := ((0 : Int32), x)) rfl rfl (by decide)
    · exact to_rk 2 17 (c := am_bz (1 : Int32) = true) (r := ((1 : Int32), x)) rfl rfl (by decide)
def f_X6_isCovered (n : Nat) (i0 : Nat) (v1 : Int32) (v2 : Int32) (v3 : Int32) (i4 : Nat) (x : am_X) : Option (Int32 × am_X) := if ¬ (xF x 4 3 i0) = 0 then (some ((0 : Int32), x)) else ((f_X3_sortsOf n i4 v1 x).bind fun q2 => (f_X0_howMany n i0 q2.1 v3 q2.2).bind fun q3 => (f_X2_needs n (xK q3.2 i0) v2 q3.2).bind fun q4 => if q3.1 < q4.1 then (some ((0 : Int32), q4.2)) else (some ((1 : Int32), q4.2)))
theorem t_X6_isCovered {n : Nat} {d : Nat} {i0 : Nat} {v1 : Int32} {v2 : Int32} {v3 : Int32} {i4 : Nat} {x z : am_X} {q : Int32 × am_X} (hd : 3 ≤ d) (h : f_X6_isCovered n i0 v1 v2 v3 i4 x = some q) : am_Ev am_PR d 49 [am_R 4 i0, am_I v1, am_I v2, am_I v3, am_R 2 i4] (x, z) (cvI0 z q) := by
  obtain ⟨d, rfl⟩ : ∃ e, d = e + 1 := ⟨d - 1, by omega⟩
  refine to_ev (P := (am_tab pX6_isCovered)) rfl (lv := [(0, am_R 4 i0), (1, am_I v1), (2, am_I v2), (3, am_I v3), (4, am_R 2 i4)]) rfl ?_ q h
  unfold f_X6_isCovered
  refine to_if 3 (c := ¬ (xF x 4 3 i0) = 0) (p1 := 36) (p2 := 7) (a' := ([(0, am_R 4 i0), (1, am_I v1), (2, am_I v2), (3, am_I v3), (4, am_R 2 i4)], ([], (x, z)))) rfl (fun c_1 => ?_) (fun c_1 => ?_)
  · exact to_rk 1 37 (c := am_bz (0 : Int32) = true) (r := ((0 : Int32), x)) rfl rfl (by decide)
  · refine to_go 4 (pc' := 14) (a' := ([(0, am_R 4 i0), (1, am_I v1), (2, am_I v2), (3, am_I v3), (4, am_R 2 i4)], ([am_I v1, am_R 2 i4, am_R 5 i0], (x, z)))) rfl ?_
    refine to_cl 1 (lv := [(0, am_R 4 i0), (1, am_I v1), (2, am_I v2), (3, am_I v3), (4, am_R 2 i4)]) (st := [am_R 5 i0]) (M := (x, z)) (cb := (cvI0 z)) rfl (fun q hq => t_X3_sortsOf (by omega) hq) (fun q2 => ?_)
    refine to_cl 2 (lv := [(0, am_R 4 i0), (1, am_I v1), (2, am_I v2), (3, am_I v3), (4, am_R 2 i4)]) (st := []) (M := (q2.2, z)) (cb := (cvI0 z)) rfl (fun q hq => t_X0_howMany (by omega) hq) (fun q3 => ?_)
    refine to_cl 4 (lv := [(0, am_R 4 i0), (1, am_I v1), (2, am_I v2), (3, am_I v3), (4, am_R 2 i4)]) (st := [am_I q3.1]) (M := (q3.2, z)) (cb := (cvI0 z)) rfl (fun q hq => t_X2_needs (by omega) hq) (fun q4 => ?_)
    refine to_if 1 (c := q3.1 < q4.1) (p1 := 36) (p2 := 32) (a' := ([(0, am_R 4 i0), (1, am_I v1), (2, am_I v2), (3, am_I v3), (4, am_R 2 i4)], ([], (q4.2, z)))) rfl (fun c_5 => ?_) (fun c_5 => ?_)
    · exact to_rk 1 37 (c := am_bz (0 : Int32) = true) (r := ((0 : Int32), q4.2)) rfl rfl (by decide)
    · exact to_rk 2 37 (c := am_bz (1 : Int32) = true) (r := ((1 : Int32), q4.2)) rfl rfl (by decide)
def f_X6_isFreeTo (n : Nat) (i0 : Nat) (v1 : Int32) (i2 : Nat) (x : am_X) : Option (Int32 × am_X) := if (xF x 4 4 i0) = 0 then ((f_X8_isServing n v1 x).bind fun q2 => if q2.1 = 0 then ((f_X8_isCoveredDeed n v1 q2.2).bind fun q4 => if q4.1 = 0 then (if ¬ (xF q4.2 4 3 i0) = 0 then (some ((0 : Int32), q4.2)) else (some ((1 : Int32), q4.2))) else ((f_X3_termOf n i2 (v1 - v1 / (10 : Int32) * (10 : Int32)) q4.2).bind fun q7 => (f_X6_isCovered n i0 (v1 - v1 / (10 : Int32) * (10 : Int32)) q7.1 (0 : Int32) i2 q7.2).bind fun q8 => if am_bz q8.1 = true then some (q8.1, q8.2) else none)) else (some ((1 : Int32), q2.2))) else (some ((0 : Int32), x))
theorem t_X6_isFreeTo {n : Nat} {d : Nat} {i0 : Nat} {v1 : Int32} {i2 : Nat} {x z : am_X} {q : Int32 × am_X} (hd : 4 ≤ d) (h : f_X6_isFreeTo n i0 v1 i2 x = some q) : am_Ev am_PR d 50 [am_R 4 i0, am_I v1, am_R 2 i2] (x, z) (cvI0 z q) := by
  obtain ⟨d, rfl⟩ : ∃ e, d = e + 1 := ⟨d - 1, by omega⟩
  refine to_ev (P := (am_tab pX6_isFreeTo)) rfl (lv := [(0, am_R 4 i0), (1, am_I v1), (2, am_R 2 i2)]) rfl ?_ q h
  unfold f_X6_isFreeTo
  refine to_if 3 (c := (xF x 4 4 i0) = 0) (p1 := 9) (p2 := 7) (a' := ([(0, am_R 4 i0), (1, am_I v1), (2, am_R 2 i2)], ([], (x, z)))) rfl (fun c_1 => ?_) (fun c_1 => ?_)
  · refine to_cl 2 (lv := [(0, am_R 4 i0), (1, am_I v1), (2, am_R 2 i2)]) (st := []) (M := (x, z)) (cb := (cvI0 z)) rfl (fun q hq => t_X8_isServing (by omega) hq) (fun q2 => ?_)
    refine to_if 1 (c := q2.1 = 0) (p1 := 18) (p2 := 16) (a' := ([(0, am_R 4 i0), (1, am_I v1), (2, am_R 2 i2)], ([], (q2.2, z)))) rfl (fun c_3 => ?_) (fun c_3 => ?_)
    · refine to_gk 2 21 (c := ¬ (10 : Int32) = 0) (pc' := 22) (a' := ([(0, am_R 4 i0), (1, am_I v1), (2, am_R 2 i2)], ([am_I (v1 - v1 / (10 : Int32) * (10 : Int32))], (q2.2, z)))) rfl rfl (by decide) ?_
      refine to_cl 3 (lv := [(3, am_I (v1 - v1 / (10 : Int32) * (10 : Int32))), (0, am_R 4 i0), (1, am_I v1), (2, am_R 2 i2)]) (st := []) (M := (q2.2, z)) (cb := (cvI0 z)) rfl (fun q hq => t_X8_isCoveredDeed (by omega) hq) (fun q4 => ?_)
      refine to_if 1 (c := q4.1 = 0) (p1 := 45) (p2 := 30) (a' := ([(3, am_I (v1 - v1 / (10 : Int32) * (10 : Int32))), (0, am_R 4 i0), (1, am_I v1), (2, am_R 2 i2)], ([], (q4.2, z)))) rfl (fun c_5 => ?_) (fun c_5 => ?_)
      · refine to_if 3 (c := ¬ (xF q4.2 4 3 i0) = 0) (p1 := 56) (p2 := 52) (a' := ([(3, am_I (v1 - v1 / (10 : Int32) * (10 : Int32))), (0, am_R 4 i0), (1, am_I v1), (2, am_R 2 i2)], ([], (q4.2, z)))) rfl (fun c_6 => ?_) (fun c_6 => ?_)
        · exact to_rk 1 57 (c := am_bz (0 : Int32) = true) (r := ((0 : Int32), q4.2)) rfl rfl (by decide)
        · exact to_rk 2 57 (c := am_bz (1 : Int32) = true) (r := ((1 : Int32), q4.2)) rfl rfl (by decide)
      · refine to_go 4 (pc' := 34) (a' := ([(3, am_I (v1 - v1 / (10 : Int32) * (10 : Int32))), (0, am_R 4 i0), (1, am_I v1), (2, am_R 2 i2)], ([am_I (v1 - v1 / (10 : Int32) * (10 : Int32)), am_R 2 i2, am_I (v1 - v1 / (10 : Int32) * (10 : Int32)), am_R 4 i0], (q4.2, z)))) rfl ?_
        refine to_cl 1 (lv := [(3, am_I (v1 - v1 / (10 : Int32) * (10 : Int32))), (0, am_R 4 i0), (1, am_I v1), (2, am_R 2 i2)]) (st := [am_I (v1 - v1 / (10 : Int32) * (10 : Int32)), am_R 4 i0]) (M := (q4.2, z)) (cb := (cvI0 z)) rfl (fun q hq => t_X3_termOf (by omega) hq) (fun q7 => ?_)
        refine to_cl 3 (lv := [(3, am_I (v1 - v1 / (10 : Int32) * (10 : Int32))), (0, am_R 4 i0), (1, am_I v1), (2, am_R 2 i2)]) (st := []) (M := (q7.2, z)) (cb := (cvI0 z)) rfl (fun q hq => t_X6_isCovered (by omega) hq) (fun q8 => ?_)
        exact to_rz 1 57 (c := am_bz q8.1 = true) (r := (q8.1, q8.2)) rfl rfl
    · exact to_rk 1 17 (c := am_bz (1 : Int32) = true) (r := ((1 : Int32), q2.2)) rfl rfl (by decide)
  · exact to_rk 1 8 (c := am_bz (0 : Int32) = true) (r := ((0 : Int32), x)) rfl rfl (by decide)
def b_X6_earns_2 (n : Nat) : Nat → Nat → Int32 → Int32 → Int32 → am_X → Option (am_X)
  | 0, _, _, _, _, _ => none
  | k + 1, i0, v1, v2, v3, x => if ¬ (xF x 4 3 i0) = 0 then (some x) else (if (List.getD [1, 1, 2, 1, 1] (xK x i0) 0) ≤ v3 then (some x) else ((f_X0_give n i0 v1 v2 x).bind fun q3 => b_X6_earns_2 n k i0 v1 v2 (v3 + (1 : Int32)) q3))
theorem tb_X6_earns_2 {n : Nat} {d : Nat} {z : am_X} (hd : 1 ≤ d) : ∀ (k : Nat) (i0 : Nat) (v1 : Int32) (v2 : Int32) (v3 : Int32) (x : am_X), am_To d (am_tab pX6_earns) 2 ([(0, am_R 4 i0), (1, am_I v1), (2, am_I v2), (3, am_I v3)], ([], (x, z))) (cvV0 z) (b_X6_earns_2 n k i0 v1 v2 v3 x) := by
  intro k
  induction k with
  | zero =>
    intro i0 v1 v2 v3 x
    exact to_0
  | succ k ih =>
    intro i0 v1 v2 v3 x
    rw [b_X6_earns_2]
    refine to_if 3 (c := ¬ (xF x 4 3 i0) = 0) (p1 := 35) (p2 := 9) (a' := ([(0, am_R 4 i0), (1, am_I v1), (2, am_I v2), (3, am_I v3)], ([], (x, z)))) rfl (fun c_1 => ?_) (fun c_1 => ?_)
    · exact to_rt 1 rfl
    · refine to_go 4 (pc' := 17) (a' := ([(0, am_R 4 i0), (1, am_I v1), (2, am_I v2), (3, am_I v3)], ([am_I (List.getD [1, 1, 2, 1, 1] (xK x i0) 0), am_I v3], (x, z)))) rfl ?_
      refine to_if 1 (c := (List.getD [1, 1, 2, 1, 1] (xK x i0) 0) ≤ v3) (p1 := 35) (p2 := 20) (a' := ([(0, am_R 4 i0), (1, am_I v1), (2, am_I v2), (3, am_I v3)], ([], (x, z)))) rfl (fun c_2 => ?_) (fun c_2 => ?_)
      · exact to_rt 1 rfl
      · refine to_go 4 (pc' := 26) (a' := ([(0, am_R 4 i0), (1, am_I v1), (2, am_I v2), (3, am_I v3)], ([am_I v2, am_I v1, am_R 5 i0], (x, z)))) rfl ?_
        refine to_cl 1 (lv := [(0, am_R 4 i0), (1, am_I v1), (2, am_I v2), (3, am_I v3)]) (st := []) (M := (x, z)) (cb := (cvV0 z)) rfl (fun q hq => t_X0_give (by omega) hq) (fun q3 => ?_)
        refine to_go 2 (pc' := 2) (a' := ([(3, am_I (v3 + (1 : Int32))), (0, am_R 4 i0), (1, am_I v1), (2, am_I v2)], ([], (q3, z)))) rfl ?_
        refine to_fg [1, 2, 3, 0] (lv' := [(0, am_R 4 i0), (1, am_I v1), (2, am_I v2), (3, am_I (v3 + (1 : Int32)))]) rfl ?_
        exact ih i0 v1 v2 (v3 + (1 : Int32)) q3
def f_X6_earns (n : Nat) (i0 : Nat) (v1 : Int32) (v2 : Int32) (x : am_X) : Option (am_X) := b_X6_earns_2 n n i0 v1 v2 (0 : Int32) x
theorem t_X6_earns {n : Nat} {d : Nat} {i0 : Nat} {v1 : Int32} {v2 : Int32} {x z : am_X} {q : am_X} (hd : 2 ≤ d) (h : f_X6_earns n i0 v1 v2 x = some q) : am_Ev am_PR d 52 [am_R 4 i0, am_I v1, am_I v2] (x, z) (cvV0 z q) := by
  obtain ⟨d, rfl⟩ : ∃ e, d = e + 1 := ⟨d - 1, by omega⟩
  refine to_ev (P := (am_tab pX6_earns)) rfl (lv := [(0, am_R 4 i0), (1, am_I v1), (2, am_I v2)]) rfl ?_ q h
  unfold f_X6_earns
  refine to_go 2 (pc' := 2) (a' := ([(3, am_I (0 : Int32)), (0, am_R 4 i0), (1, am_I v1), (2, am_I v2)], ([], (x, z)))) rfl ?_
  refine to_fg [1, 2, 3, 0] (lv' := [(0, am_R 4 i0), (1, am_I v1), (2, am_I v2), (3, am_I (0 : Int32))]) rfl ?_
  exact tb_X6_earns_2 (by omega)  n i0 v1 v2 (0 : Int32) x
def f_X8_isBareDeed (n : Nat) (v0 : Int32) (x : am_X) : Option (Int32 × am_X) := if v0 < (20 : Int32) then (some ((0 : Int32), x)) else (if (24 : Int32) ≤ v0 then (some ((0 : Int32), x)) else (some ((1 : Int32), x)))
theorem t_X8_isBareDeed {n : Nat} {d : Nat} {v0 : Int32} {x z : am_X} {q : Int32 × am_X} (hd : 1 ≤ d) (h : f_X8_isBareDeed n v0 x = some q) : am_Ev am_PR d 105 [am_I v0] (x, z) (cvI0 z q) := by
  obtain ⟨d, rfl⟩ : ∃ e, d = e + 1 := ⟨d - 1, by omega⟩
  refine to_ev (P := (am_tab pX8_isBareDeed)) rfl (lv := [(0, am_I v0)]) rfl ?_ q h
  unfold f_X8_isBareDeed
  refine to_if 3 (c := v0 < (20 : Int32)) (p1 := 16) (p2 := 6) (a' := ([(0, am_I v0)], ([], (x, z)))) rfl (fun c_1 => ?_) (fun c_1 => ?_)
  · exact to_rk 1 17 (c := am_bz (0 : Int32) = true) (r := ((0 : Int32), x)) rfl rfl (by decide)
  · refine to_if 3 (c := (24 : Int32) ≤ v0) (p1 := 16) (p2 := 12) (a' := ([(0, am_I v0)], ([], (x, z)))) rfl (fun c_2 => ?_) (fun c_2 => ?_)
    · exact to_rk 1 17 (c := am_bz (0 : Int32) = true) (r := ((0 : Int32), x)) rfl rfl (by decide)
    · exact to_rk 2 17 (c := am_bz (1 : Int32) = true) (r := ((1 : Int32), x)) rfl rfl (by decide)
def b_X6_getsBy_14 (n : Nat) (i0 : Nat) (v1 : Int32) (i2 : Nat) (x : am_X) : Option (Int32 × am_X) := (f_X3_worthOf n i2 (v1 - v1 / (10 : Int32) * (10 : Int32)) x).bind fun q1 => (f_X2_gets n (xK x i0) q1.1 q1.2).bind fun q2 => some (q2.1, q2.2)
theorem tb_X6_getsBy_14 {n : Nat} {d : Nat} {z : am_X} (hd : 2 ≤ d) (i0 : Nat) (v1 : Int32) (i2 : Nat) (x : am_X) : am_To d (am_tab pX6_getsBy) 14 ([(0, am_R 4 i0), (1, am_I v1), (2, am_R 2 i2)], ([], (x, z))) (cvI0 z) (b_X6_getsBy_14 n i0 v1 i2 x) := by
  unfold b_X6_getsBy_14
  refine to_go 4 (pc' := 20) (a' := ([(0, am_R 4 i0), (1, am_I v1), (2, am_R 2 i2)], ([am_I v1, am_R 2 i2, am_R 20 (xK x i0)], (x, z)))) rfl ?_
  refine to_gk 1 22 (c := ¬ (10 : Int32) = 0) (pc' := 23) (a' := ([(0, am_R 4 i0), (1, am_I v1), (2, am_R 2 i2)], ([am_I (v1 - v1 / (10 : Int32) * (10 : Int32)), am_R 2 i2, am_R 20 (xK x i0)], (x, z)))) rfl rfl (by decide) ?_
  refine to_cl 1 (lv := [(0, am_R 4 i0), (1, am_I v1), (2, am_R 2 i2)]) (st := [am_R 20 (xK x i0)]) (M := (x, z)) (cb := (cvI0 z)) rfl (fun q hq => t_X3_worthOf (by omega) hq) (fun q1 => ?_)
  refine to_cl 1 (lv := [(0, am_R 4 i0), (1, am_I v1), (2, am_R 2 i2)]) (st := []) (M := (q1.2, z)) (cb := (cvI0 z)) rfl (fun q hq => t_X2_gets (by omega) hq) (fun q2 => ?_)
  exact to_rt 2 (r := (q2.1, q2.2)) rfl
def f_X6_getsBy (n : Nat) (i0 : Nat) (v1 : Int32) (i2 : Nat) (x : am_X) : Option (Int32 × am_X) := (f_X8_isCoveredDeed n v1 x).bind fun q1 => if ¬ q1.1 = 0 then (b_X6_getsBy_14 n i0 v1 i2 q1.2) else ((f_X8_isBareDeed n v1 q1.2).bind fun q3 => if q3.1 = 0 then (some ((0 : Int32), q3.2)) else (b_X6_getsBy_14 n i0 v1 i2 q3.2))
theorem t_X6_getsBy {n : Nat} {d : Nat} {i0 : Nat} {v1 : Int32} {i2 : Nat} {x z : am_X} {q : Int32 × am_X} (hd : 3 ≤ d) (h : f_X6_getsBy n i0 v1 i2 x = some q) : am_Ev am_PR d 53 [am_R 4 i0, am_I v1, am_R 2 i2] (x, z) (cvI0 z q) := by
  obtain ⟨d, rfl⟩ : ∃ e, d = e + 1 := ⟨d - 1, by omega⟩
  refine to_ev (P := (am_tab pX6_getsBy)) rfl (lv := [(0, am_R 4 i0), (1, am_I v1), (2, am_R 2 i2)]) rfl ?_ q h
  unfold f_X6_getsBy
  refine to_cl 2 (lv := [(0, am_R 4 i0), (1, am_I v1), (2, am_R 2 i2)]) (st := []) (M := (x, z)) (cb := (cvI0 z)) rfl (fun q hq => t_X8_isCoveredDeed (by omega) hq) (fun q1 => ?_)
  refine to_if 1 (c := ¬ q1.1 = 0) (p1 := 14) (p2 := 7) (a' := ([(0, am_R 4 i0), (1, am_I v1), (2, am_R 2 i2)], ([], (q1.2, z)))) rfl (fun c_2 => ?_) (fun c_2 => ?_)
  · refine to_fg [0, 1, 2] (lv' := [(0, am_R 4 i0), (1, am_I v1), (2, am_R 2 i2)]) rfl ?_
    exact tb_X6_getsBy_14 (by omega)  i0 v1 i2 q1.2
  · refine to_cl 2 (lv := [(0, am_R 4 i0), (1, am_I v1), (2, am_R 2 i2)]) (st := []) (M := (q1.2, z)) (cb := (cvI0 z)) rfl (fun q hq => t_X8_isBareDeed (by omega) hq) (fun q3 => ?_)
    refine to_if 1 (c := q3.1 = 0) (p1 := 32) (p2 := 14) (a' := ([(0, am_R 4 i0), (1, am_I v1), (2, am_R 2 i2)], ([], (q3.2, z)))) rfl (fun c_4 => ?_) (fun c_4 => ?_)
    · exact to_rt 2 (r := ((0 : Int32), q3.2)) rfl
    · refine to_fg [0, 1, 2] (lv' := [(0, am_R 4 i0), (1, am_I v1), (2, am_R 2 i2)]) rfl ?_
      exact tb_X6_getsBy_14 (by omega)  i0 v1 i2 q3.2
def f_X2_owesFor (n : Nat) (i0 : Nat) (v1 : Int32) (x : am_X) : Option (Int32 × am_X) := some ((v1 * (List.getD [2, 2, 2, 2, 1] i0 0)), x)
theorem t_X2_owesFor {n : Nat} {d : Nat} {i0 : Nat} {v1 : Int32} {x z : am_X} {q : Int32 × am_X} (hd : 1 ≤ d) (h : f_X2_owesFor n i0 v1 x = some q) : am_Ev am_PR d 17 [am_R 20 i0, am_I v1] (x, z) (cvI0 z q) := by
  obtain ⟨d, rfl⟩ : ∃ e, d = e + 1 := ⟨d - 1, by omega⟩
  refine to_ev (P := (am_tab pX2_owesFor)) rfl (lv := [(0, am_R 20 i0), (1, am_I v1)]) rfl ?_ q h
  unfold f_X2_owesFor
  refine to_go 4 (pc' := 6) (a' := ([(0, am_R 20 i0), (1, am_I v1)], ([am_I (v1 * (List.getD [2, 2, 2, 2, 1] i0 0))], (x, z)))) rfl ?_
  exact to_rt 1 (r := ((v1 * (List.getD [2, 2, 2, 2, 1] i0 0)), x)) rfl
def f_X6_owesAfter (n : Nat) (i0 : Nat) (v1 : Int32) (i2 : Nat) (x : am_X) : Option (Int32 × am_X) := (f_X8_isServing n v1 x).bind fun q1 => if q1.1 = 0 then ((f_X8_isBareDeed n v1 q1.2).bind fun q3 => if q3.1 = 0 then (some ((xF q3.2 4 3 i0), q3.2)) else ((f_X3_termOf n i2 (v1 - v1 / (10 : Int32) * (10 : Int32)) q3.2).bind fun q5 => (f_X2_owesFor n (xK q3.2 i0) q5.1 q5.2).bind fun q6 => some (q6.1, q6.2))) else (some ((if (0 : Int32) < ((xF q1.2 4 3 i0) - (1 : Int32)) then ((xF q1.2 4 3 i0) - (1 : Int32)) else (0 : Int32)), q1.2))
theorem t_X6_owesAfter {n : Nat} {d : Nat} {i0 : Nat} {v1 : Int32} {i2 : Nat} {x z : am_X} {q : Int32 × am_X} (hd : 3 ≤ d) (h : f_X6_owesAfter n i0 v1 i2 x = some q) : am_Ev am_PR d 54 [am_R 4 i0, am_I v1, am_R 2 i2] (x, z) (cvI0 z q) := by
  obtain ⟨d, rfl⟩ : ∃ e, d = e + 1 := ⟨d - 1, by omega⟩
  refine to_ev (P := (am_tab pX6_owesAfter)) rfl (lv := [(0, am_R 4 i0), (1, am_I v1), (2, am_R 2 i2)]) rfl ?_ q h
  unfold f_X6_owesAfter
  refine to_cl 2 (lv := [(0, am_R 4 i0), (1, am_I v1), (2, am_R 2 i2)]) (st := []) (M := (x, z)) (cb := (cvI0 z)) rfl (fun q hq => t_X8_isServing (by omega) hq) (fun q1 => ?_)
  refine to_if 1 (c := q1.1 = 0) (p1 := 18) (p2 := 7) (a' := ([(0, am_R 4 i0), (1, am_I v1), (2, am_R 2 i2)], ([], (q1.2, z)))) rfl (fun c_2 => ?_) (fun c_2 => ?_)
  · refine to_cl 2 (lv := [(0, am_R 4 i0), (1, am_I v1), (2, am_R 2 i2)]) (st := []) (M := (q1.2, z)) (cb := (cvI0 z)) rfl (fun q hq => t_X8_isBareDeed (by omega) hq) (fun q3 => ?_)
    refine to_if 1 (c := q3.1 = 0) (p1 := 43) (p2 := 25) (a' := ([(0, am_R 4 i0), (1, am_I v1), (2, am_R 2 i2)], ([], (q3.2, z)))) rfl (fun c_4 => ?_) (fun c_4 => ?_)
    · exact to_rt 3 (r := ((xF q3.2 4 3 i0), q3.2)) rfl
    · refine to_go 4 (pc' := 31) (a' := ([(0, am_R 4 i0), (1, am_I v1), (2, am_R 2 i2)], ([am_I v1, am_R 2 i2, am_R 20 (xK q3.2 i0)], (q3.2, z)))) rfl ?_
      refine to_gk 1 33 (c := ¬ (10 : Int32) = 0) (pc' := 34) (a' := ([(0, am_R 4 i0), (1, am_I v1), (2, am_R 2 i2)], ([am_I (v1 - v1 / (10 : Int32) * (10 : Int32)), am_R 2 i2, am_R 20 (xK q3.2 i0)], (q3.2, z)))) rfl rfl (by decide) ?_
      refine to_cl 1 (lv := [(0, am_R 4 i0), (1, am_I v1), (2, am_R 2 i2)]) (st := [am_R 20 (xK q3.2 i0)]) (M := (q3.2, z)) (cb := (cvI0 z)) rfl (fun q hq => t_X3_termOf (by omega) hq) (fun q5 => ?_)
      refine to_cl 1 (lv := [(0, am_R 4 i0), (1, am_I v1), (2, am_R 2 i2)]) (st := []) (M := (q5.2, z)) (cb := (cvI0 z)) rfl (fun q hq => t_X2_owesFor (by omega) hq) (fun q6 => ?_)
      exact to_rt 2 (r := (q6.1, q6.2)) rfl
  · refine to_go 4 (pc' := 13) (a' := ([(0, am_R 4 i0), (1, am_I v1), (2, am_R 2 i2)], ([am_I (1 : Int32), am_I (xF q1.2 4 3 i0), am_I (0 : Int32)], (q1.2, z)))) rfl ?_
    exact to_rt 3 (r := ((if (0 : Int32) < ((xF q1.2 4 3 i0) - (1 : Int32)) then ((xF q1.2 4 3 i0) - (1 : Int32)) else (0 : Int32)), q1.2)) rfl
def b_X6_does_57 (n : Nat) (i0 : Nat) (v1 : Int32) (i2 : Nat) (x : am_X) : Option (am_X) := (f_X6_getsBy n i0 v1 i2 x).bind fun q1 => (f_X6_owesAfter n i0 v1 i2 (sF q1.2 4 2 i0 ((xF x 4 2 i0) + q1.1))).bind fun q2 => some (sF (sF q2.2 4 3 i0 q2.1) 4 4 i0 (1 : Int32))
theorem tb_X6_does_57 {n : Nat} {d : Nat} {z : am_X} (hd : 3 ≤ d) (i0 : Nat) (v1 : Int32) (i2 : Nat) (x : am_X) : am_To d (am_tab pX6_does) 57 ([(0, am_R 4 i0), (1, am_I v1), (2, am_R 2 i2)], ([], (x, z))) (cvV0 z) (b_X6_does_57 n i0 v1 i2 x) := by
  unfold b_X6_does_57
  refine to_go 4 (pc' := 63) (a' := ([(0, am_R 4 i0), (1, am_I v1), (2, am_R 2 i2)], ([am_R 4 i0, am_I (xF x 4 2 i0), am_R 4 i0], (x, z)))) rfl ?_
  refine to_cl 3 (lv := [(0, am_R 4 i0), (1, am_I v1), (2, am_R 2 i2)]) (st := [am_I (xF x 4 2 i0), am_R 4 i0]) (M := (x, z)) (cb := (cvI0 z)) rfl (fun q hq => t_X6_getsBy (by omega) hq) (fun q1 => ?_)
  refine to_go 4 (pc' := 74) (a' := ([(0, am_R 4 i0), (1, am_I v1), (2, am_R 2 i2)], ([am_R 4 i0, am_R 4 i0], ((sF q1.2 4 2 i0 ((xF x 4 2 i0) + q1.1)), z)))) rfl ?_
  refine to_cl 3 (lv := [(0, am_R 4 i0), (1, am_I v1), (2, am_R 2 i2)]) (st := [am_R 4 i0]) (M := ((sF q1.2 4 2 i0 ((xF x 4 2 i0) + q1.1)), z)) (cb := (cvI0 z)) rfl (fun q hq => t_X6_owesAfter (by omega) hq) (fun q2 => ?_)
  refine to_gk 3 84 (c := am_bz (1 : Int32) = true) (pc' := 87) (a' := ([(0, am_R 4 i0), (1, am_I v1), (2, am_R 2 i2)], ([], ((sF (sF q2.2 4 3 i0 q2.1) 4 4 i0 (1 : Int32)), z)))) rfl rfl (by decide) ?_
  exact to_rt 1 rfl
def b_X6_does_20 (n : Nat) (i0 : Nat) (v1 : Int32) (i2 : Nat) (x : am_X) : Option (am_X) := (f_X8_isCoveredDeed n v1 x).bind fun q1 => if q1.1 = 0 then (b_X6_does_57 n i0 v1 i2 q1.2) else ((f_X3_sortsOf n i2 (v1 - v1 / (10 : Int32) * (10 : Int32)) q1.2).bind fun q3 => (f_X3_termOf n i2 (v1 - v1 / (10 : Int32) * (10 : Int32)) q3.2).bind fun q4 => (f_X2_needs n (xK q3.2 i0) q4.1 q4.2).bind fun q5 => (f_X0_dropOldest n i0 q3.1 q5.1 q5.2).bind fun q6 => b_X6_does_57 n i0 v1 i2 q6)
theorem tb_X6_does_20 {n : Nat} {d : Nat} {z : am_X} (hd : 3 ≤ d) (i0 : Nat) (v1 : Int32) (i2 : Nat) (x : am_X) : am_To d (am_tab pX6_does) 20 ([(0, am_R 4 i0), (1, am_I v1), (2, am_R 2 i2)], ([], (x, z))) (cvV0 z) (b_X6_does_20 n i0 v1 i2 x) := by
  unfold b_X6_does_20
  refine to_cl 2 (lv := [(0, am_R 4 i0), (1, am_I v1), (2, am_R 2 i2)]) (st := []) (M := (x, z)) (cb := (cvI0 z)) rfl (fun q hq => t_X8_isCoveredDeed (by omega) hq) (fun q1 => ?_)
  refine to_if 1 (c := q1.1 = 0) (p1 := 57) (p2 := 27) (a' := ([(0, am_R 4 i0), (1, am_I v1), (2, am_R 2 i2)], ([], (q1.2, z)))) rfl (fun c_2 => ?_) (fun c_2 => ?_)
  · refine to_fg [0, 1, 2] (lv' := [(0, am_R 4 i0), (1, am_I v1), (2, am_R 2 i2)]) rfl ?_
    exact tb_X6_does_57 (by omega)  i0 v1 i2 q1.2
  · refine to_go 4 (pc' := 33) (a' := ([(0, am_R 4 i0), (1, am_I v1), (2, am_R 2 i2)], ([am_I v1, am_R 2 i2, am_R 5 i0], (q1.2, z)))) rfl ?_
    refine to_gk 1 35 (c := ¬ (10 : Int32) = 0) (pc' := 36) (a' := ([(0, am_R 4 i0), (1, am_I v1), (2, am_R 2 i2)], ([am_I (v1 - v1 / (10 : Int32) * (10 : Int32)), am_R 2 i2, am_R 5 i0], (q1.2, z)))) rfl rfl (by decide) ?_
    refine to_cl 1 (lv := [(0, am_R 4 i0), (1, am_I v1), (2, am_R 2 i2)]) (st := [am_R 5 i0]) (M := (q1.2, z)) (cb := (cvI0 z)) rfl (fun q hq => t_X3_sortsOf (by omega) hq) (fun q3 => ?_)
    refine to_go 4 (pc' := 45) (a' := ([(0, am_R 4 i0), (1, am_I v1), (2, am_R 2 i2)], ([am_I v1, am_R 2 i2, am_R 20 (xK q3.2 i0), am_I q3.1, am_R 5 i0], (q3.2, z)))) rfl ?_
    refine to_gk 1 47 (c := ¬ (10 : Int32) = 0) (pc' := 48) (a' := ([(0, am_R 4 i0), (1, am_I v1), (2, am_R 2 i2)], ([am_I (v1 - v1 / (10 : Int32) * (10 : Int32)), am_R 2 i2, am_R 20 (xK q3.2 i0), am_I q3.1, am_R 5 i0], (q3.2, z)))) rfl rfl (by decide) ?_
    refine to_cl 1 (lv := [(0, am_R 4 i0), (1, am_I v1), (2, am_R 2 i2)]) (st := [am_R 20 (xK q3.2 i0), am_I q3.1, am_R 5 i0]) (M := (q3.2, z)) (cb := (cvI0 z)) rfl (fun q hq => t_X3_termOf (by omega) hq) (fun q4 => ?_)
    refine to_cl 1 (lv := [(0, am_R 4 i0), (1, am_I v1), (2, am_R 2 i2)]) (st := [am_I q3.1, am_R 5 i0]) (M := (q4.2, z)) (cb := (cvI0 z)) rfl (fun q hq => t_X2_needs (by omega) hq) (fun q5 => ?_)
    refine to_cl 1 (lv := [(0, am_R 4 i0), (1, am_I v1), (2, am_R 2 i2)]) (st := []) (M := (q5.2, z)) (cb := (cvV0 z)) rfl (fun q hq => t_X0_dropOldest (by omega) hq) (fun q6 => ?_)
    refine to_fg [0, 1, 2] (lv' := [(0, am_R 4 i0), (1, am_I v1), (2, am_R 2 i2)]) rfl ?_
    exact tb_X6_does_57 (by omega)  i0 v1 i2 q6
def f_X6_does (n : Nat) (i0 : Nat) (v1 : Int32) (i2 : Nat) (v3 : Int32) (x : am_X) : Option (am_X) := if ¬ v1 = (9 : Int32) then ((f_X8_isServing n v1 x).bind fun q2 => if q2.1 = 0 then (b_X6_does_20 n i0 v1 i2 q2.2) else ((f_X6_earns n i0 v1 v3 q2.2).bind fun q4 => b_X6_does_20 n i0 v1 i2 q4)) else (some x)
theorem t_X6_does {n : Nat} {d : Nat} {i0 : Nat} {v1 : Int32} {i2 : Nat} {v3 : Int32} {x z : am_X} {q : am_X} (hd : 4 ≤ d) (h : f_X6_does n i0 v1 i2 v3 x = some q) : am_Ev am_PR d 51 [am_R 4 i0, am_I v1, am_R 2 i2, am_I v3] (x, z) (cvV0 z q) := by
  obtain ⟨d, rfl⟩ : ∃ e, d = e + 1 := ⟨d - 1, by omega⟩
  refine to_ev (P := (am_tab pX6_does)) rfl (lv := [(0, am_R 4 i0), (1, am_I v1), (2, am_R 2 i2), (3, am_I v3)]) rfl ?_ q h
  unfold f_X6_does
  refine to_if 3 (c := ¬ v1 = (9 : Int32)) (p1 := 7) (p2 := 6) (a' := ([(0, am_R 4 i0), (1, am_I v1), (2, am_R 2 i2), (3, am_I v3)], ([], (x, z)))) rfl (fun c_1 => ?_) (fun c_1 => ?_)
  · refine to_cl 2 (lv := [(0, am_R 4 i0), (1, am_I v1), (2, am_R 2 i2), (3, am_I v3)]) (st := []) (M := (x, z)) (cb := (cvI0 z)) rfl (fun q hq => t_X8_isServing (by omega) hq) (fun q2 => ?_)
    refine to_if 1 (c := q2.1 = 0) (p1 := 20) (p2 := 14) (a' := ([(0, am_R 4 i0), (1, am_I v1), (2, am_R 2 i2), (3, am_I v3)], ([], (q2.2, z)))) rfl (fun c_3 => ?_) (fun c_3 => ?_)
    · refine to_fg [0, 1, 2] (lv' := [(0, am_R 4 i0), (1, am_I v1), (2, am_R 2 i2)]) rfl ?_
      exact tb_X6_does_20 (by omega)  i0 v1 i2 q2.2
    · refine to_cl 4 (lv := [(0, am_R 4 i0), (1, am_I v1), (2, am_R 2 i2), (3, am_I v3)]) (st := []) (M := (q2.2, z)) (cb := (cvV0 z)) rfl (fun q hq => t_X6_earns (by omega) hq) (fun q4 => ?_)
      refine to_fg [0, 1, 2] (lv' := [(0, am_R 4 i0), (1, am_I v1), (2, am_R 2 i2)]) rfl ?_
      exact tb_X6_does_20 (by omega)  i0 v1 i2 q4
  · exact to_rt 1 rfl
def b_X1_tryFrom_32 (n : Nat) (rc : Nat → Int32 → Nat → am_X → Option (am_X)) (i0 : Nat) (i3 : Nat) (x : am_X) : Option (am_X) := if (xF x 4 2 i3) ≤ (xF x 6 4 i0) then (some x) else (some (sF (sF x 6 4 i0 (xF x 4 2 i3)) 6 5 i0 (xF x 6 3 i0)))
theorem tb_X1_tryFrom_32 {n : Nat} {rc : Nat → Int32 → Nat → am_X → Option (am_X)} {d : Nat} {z : am_X} {e : Nat} (hrc : ∀ (a0 : Nat) (a1 : Int32) (a2 : Nat) (x z : am_X) q, rc a0 a1 a2 x = some q → am_Ev am_PR e 10 [am_R 6 a0, am_I a1, am_R 2 a2] (x, z) (cvV0 z q)) (he : e + 0 ≤ d) (hd : 4 ≤ d) (i0 : Nat) (i3 : Nat) (x : am_X) : am_To d (am_tab pX1_tryFrom) 32 ([(0, am_R 6 i0), (3, am_R 4 i3)], ([], (x, z))) (cvV0 z) (b_X1_tryFrom_32 n rc i0 i3 x) := by
  unfold b_X1_tryFrom_32
  refine to_go 4 (pc' := 40) (a' := ([(0, am_R 6 i0), (3, am_R 4 i3)], ([am_I (xF x 6 4 i0), am_I (xF x 4 2 i3)], (x, z)))) rfl ?_
  refine to_if 1 (c := (xF x 4 2 i3) ≤ (xF x 6 4 i0)) (p1 := 59) (p2 := 43) (a' := ([(0, am_R 6 i0), (3, am_R 4 i3)], ([], (x, z)))) rfl (fun c_1 => ?_) (fun c_1 => ?_)
  · exact to_rt 1 rfl
  · refine to_go 4 (pc' := 51) (a' := ([(0, am_R 6 i0), (3, am_R 4 i3)], ([], ((sF x 6 4 i0 (xF x 4 2 i3)), z)))) rfl ?_
    refine to_go 4 (pc' := 59) (a' := ([(0, am_R 6 i0), (3, am_R 4 i3)], ([], ((sF (sF x 6 4 i0 (xF x 4 2 i3)) 6 5 i0 (xF x 6 3 i0)), z)))) rfl ?_
    exact to_rt 1 rfl
def b_X1_tryFrom_192 (n : Nat) (rc : Nat → Int32 → Nat → am_X → Option (am_X)) (h87 : Nat → Int32 → Nat → Nat → Int32 → am_X → Option (am_X)) (i0 : Nat) (v1 : Int32) (i2 : Nat) (i3 : Nat) (v4 : Int32) (x : am_X) : Option (am_X) := h87 i0 v1 i2 i3 (v4 + (1 : Int32)) x
theorem tb_X1_tryFrom_192 {n : Nat} {rc : Nat → Int32 → Nat → am_X → Option (am_X)} {h87 : Nat → Int32 → Nat → Nat → Int32 → am_X → Option (am_X)} {d : Nat} {z : am_X} {e : Nat} (hrc : ∀ (a0 : Nat) (a1 : Int32) (a2 : Nat) (x z : am_X) q, rc a0 a1 a2 x = some q → am_Ev am_PR e 10 [am_R 6 a0, am_I a1, am_R 2 a2] (x, z) (cvV0 z q)) (he : e + 0 ≤ d) (hd : 4 ≤ d) (hh87 : ∀ (i0 : Nat) (v1 : Int32) (i2 : Nat) (i3 : Nat) (v4 : Int32) (x : am_X), am_To d (am_tab pX1_tryFrom) 87 ([(0, am_R 6 i0), (1, am_I v1), (2, am_R 2 i2), (3, am_R 4 i3), (4, am_I v4)], ([], (x, z))) (cvV0 z) (h87 i0 v1 i2 i3 v4 x)) (i0 : Nat) (v1 : Int32) (i2 : Nat) (i3 : Nat) (v4 : Int32) (x : am_X) : am_To d (am_tab pX1_tryFrom) 192 ([(0, am_R 6 i0), (1, am_I v1), (2, am_R 2 i2), (3, am_R 4 i3), (4, am_I v4)], ([], (x, z))) (cvV0 z) (b_X1_tryFrom_192 n rc h87 i0 v1 i2 i3 v4 x) := by
  unfold b_X1_tryFrom_192
  refine to_go 2 (pc' := 87) (a' := ([(4, am_I (v4 + (1 : Int32))), (0, am_R 6 i0), (1, am_I v1), (2, am_R 2 i2), (3, am_R 4 i3)], ([], (x, z)))) rfl ?_
  refine to_fg [1, 2, 3, 4, 0] (lv' := [(0, am_R 6 i0), (1, am_I v1), (2, am_R 2 i2), (3, am_R 4 i3), (4, am_I (v4 + (1 : Int32)))]) rfl ?_
  exact hh87 i0 v1 i2 i3 (v4 + (1 : Int32)) x
def b_X1_tryFrom_140 (n : Nat) (rc : Nat → Int32 → Nat → am_X → Option (am_X)) (h87 : Nat → Int32 → Nat → Nat → Int32 → am_X → Option (am_X)) (i0 : Nat) (v1 : Int32) (i2 : Nat) (i3 : Nat) (v4 : Int32) (v5 : Int32) (x : am_X) : Option (am_X) := if am_inB (v1 + (1 : Int32)) 7 = true then ((f_X6_copy n (13 + (Int32.toNatClampNeg (v1 + (1 : Int32)))) i3 x).bind fun q2 => (f_X6_does n (13 + (Int32.toNatClampNeg (v1 + (1 : Int32)))) v5 i2 ((xF q2 6 2 i0) + v1) q2).bind fun q3 => (f_X6_enter n (13 + (Int32.toNatClampNeg (v1 + (1 : Int32)))) (((xF q3 6 2 i0) + v1) + (1 : Int32)) i2 q3).bind fun q4 => (rc i0 (v1 + (1 : Int32)) i2 q4).bind fun q5 => b_X1_tryFrom_192 n rc h87 i0 v1 i2 i3 v4 q5) else none
theorem tb_X1_tryFrom_140 {n : Nat} {rc : Nat → Int32 → Nat → am_X → Option (am_X)} {h87 : Nat → Int32 → Nat → Nat → Int32 → am_X → Option (am_X)} {d : Nat} {z : am_X} {e : Nat} (hrc : ∀ (a0 : Nat) (a1 : Int32) (a2 : Nat) (x z : am_X) q, rc a0 a1 a2 x = some q → am_Ev am_PR e 10 [am_R 6 a0, am_I a1, am_R 2 a2] (x, z) (cvV0 z q)) (he : e + 0 ≤ d) (hd : 4 ≤ d) (hh87 : ∀ (i0 : Nat) (v1 : Int32) (i2 : Nat) (i3 : Nat) (v4 : Int32) (x : am_X), am_To d (am_tab pX1_tryFrom) 87 ([(0, am_R 6 i0), (1, am_I v1), (2, am_R 2 i2), (3, am_R 4 i3), (4, am_I v4)], ([], (x, z))) (cvV0 z) (h87 i0 v1 i2 i3 v4 x)) (i0 : Nat) (v1 : Int32) (i2 : Nat) (i3 : Nat) (v4 : Int32) (v5 : Int32) (x : am_X) : am_To d (am_tab pX1_tryFrom) 140 ([(0, am_R 6 i0), (1, am_I v1), (2, am_R 2 i2), (3, am_R 4 i3), (4, am_I v4), (5, am_I v5)], ([], (x, z))) (cvV0 z) (b_X1_tryFrom_140 n rc h87 i0 v1 i2 i3 v4 v5 x) := by
  unfold b_X1_tryFrom_140
  refine to_go 4 (pc' := 146) (a' := ([(0, am_R 6 i0), (1, am_I v1), (2, am_R 2 i2), (3, am_R 4 i3), (4, am_I v4), (5, am_I v5)], ([am_I (1 : Int32), am_I v1, am_R 14 0], (x, z)))) rfl ?_
  refine to_gd 1 147 (c := am_inB (v1 + (1 : Int32)) 7 = true) (pc' := 148) (a' := ([(0, am_R 6 i0), (1, am_I v1), (2, am_R 2 i2), (3, am_R 4 i3), (4, am_I v4), (5, am_I v5)], ([am_R 4 (13 + (Int32.toNatClampNeg (v1 + (1 : Int32))))], (x, z)))) rfl rfl (fun c_1 => ?_)
  refine to_cl 4 (lv := [(6, am_R 4 (13 + (Int32.toNatClampNeg (v1 + (1 : Int32))))), (0, am_R 6 i0), (1, am_I v1), (2, am_R 2 i2), (3, am_R 4 i3), (4, am_I v4), (5, am_I v5)]) (st := []) (M := (x, z)) (cb := (cvV0 z)) rfl (fun q hq => t_X6_copy (by omega) hq) (fun q2 => ?_)
  refine to_go 4 (pc' := 162) (a' := ([(6, am_R 4 (13 + (Int32.toNatClampNeg (v1 + (1 : Int32))))), (0, am_R 6 i0), (1, am_I v1), (2, am_R 2 i2), (3, am_R 4 i3), (4, am_I v4), (5, am_I v5)], ([am_R 6 i0, am_R 2 i2, am_I v5, am_R 4 (13 + (Int32.toNatClampNeg (v1 + (1 : Int32))))], (q2, z)))) rfl ?_
  refine to_cl 4 (lv := [(6, am_R 4 (13 + (Int32.toNatClampNeg (v1 + (1 : Int32))))), (0, am_R 6 i0), (1, am_I v1), (2, am_R 2 i2), (3, am_R 4 i3), (4, am_I v4), (5, am_I v5)]) (st := []) (M := (q2, z)) (cb := (cvV0 z)) rfl (fun q hq => t_X6_does (by omega) hq) (fun q3 => ?_)
  refine to_go 4 (pc' := 177) (a' := ([(6, am_R 4 (13 + (Int32.toNatClampNeg (v1 + (1 : Int32))))), (0, am_R 6 i0), (1, am_I v1), (2, am_R 2 i2), (3, am_R 4 i3), (4, am_I v4), (5, am_I v5)], ([am_I v1, am_I (xF q3 6 2 i0), am_R 4 (13 + (Int32.toNatClampNeg (v1 + (1 : Int32))))], (q3, z)))) rfl ?_
  refine to_go 4 (pc' := 181) (a' := ([(6, am_R 4 (13 + (Int32.toNatClampNeg (v1 + (1 : Int32))))), (0, am_R 6 i0), (1, am_I v1), (2, am_R 2 i2), (3, am_R 4 i3), (4, am_I v4), (5, am_I v5)], ([am_R 2 i2, am_I (((xF q3 6 2 i0) + v1) + (1 : Int32)), am_R 4 (13 + (Int32.toNatClampNeg (v1 + (1 : Int32))))], (q3, z)))) rfl ?_
  refine to_cl 1 (lv := [(6, am_R 4 (13 + (Int32.toNatClampNeg (v1 + (1 : Int32))))), (0, am_R 6 i0), (1, am_I v1), (2, am_R 2 i2), (3, am_R 4 i3), (4, am_I v4), (5, am_I v5)]) (st := []) (M := (q3, z)) (cb := (cvV0 z)) rfl (fun q hq => t_X6_enter (by omega) hq) (fun q4 => ?_)
  refine to_go 4 (pc' := 188) (a' := ([(6, am_R 4 (13 + (Int32.toNatClampNeg (v1 + (1 : Int32))))), (0, am_R 6 i0), (1, am_I v1), (2, am_R 2 i2), (3, am_R 4 i3), (4, am_I v4), (5, am_I v5)], ([am_I (v1 + (1 : Int32)), am_R 6 i0], (q4, z)))) rfl ?_
  refine to_cl 2 (lv := [(6, am_R 4 (13 + (Int32.toNatClampNeg (v1 + (1 : Int32))))), (0, am_R 6 i0), (1, am_I v1), (2, am_R 2 i2), (3, am_R 4 i3), (4, am_I v4), (5, am_I v5)]) (st := []) (M := (q4, z)) (cb := (cvV0 z)) rfl (fun q hq => am_Ev_le (by omega) (hrc i0 (v1 + (1 : Int32)) i2 q4 z _ hq)) (fun q5 => ?_)
  refine to_fg [1, 2, 3, 4, 5] (lv' := [(0, am_R 6 i0), (1, am_I v1), (2, am_R 2 i2), (3, am_R 4 i3), (4, am_I v4)]) rfl ?_
  exact tb_X1_tryFrom_192 hrc (by omega) (by omega) hh87  i0 v1 i2 i3 v4 q5
def b_X1_tryFrom_123 (n : Nat) (rc : Nat → Int32 → Nat → am_X → Option (am_X)) (h87 : Nat → Int32 → Nat → Nat → Int32 → am_X → Option (am_X)) (i0 : Nat) (v1 : Int32) (i2 : Nat) (i3 : Nat) (v4 : Int32) (v5 : Int32) (x : am_X) : Option (am_X) := if v5 = (9 : Int32) then (b_X1_tryFrom_140 n rc h87 i0 v1 i2 i3 v4 v5 x) else ((f_X6_isFreeTo n i3 v5 i2 x).bind fun q2 => if q2.1 = 0 then (b_X1_tryFrom_192 n rc h87 i0 v1 i2 i3 v4 q2.2) else (b_X1_tryFrom_140 n rc h87 i0 v1 i2 i3 v4 v5 q2.2))
theorem tb_X1_tryFrom_123 {n : Nat} {rc : Nat → Int32 → Nat → am_X → Option (am_X)} {h87 : Nat → Int32 → Nat → Nat → Int32 → am_X → Option (am_X)} {d : Nat} {z : am_X} {e : Nat} (hrc : ∀ (a0 : Nat) (a1 : Int32) (a2 : Nat) (x z : am_X) q, rc a0 a1 a2 x = some q → am_Ev am_PR e 10 [am_R 6 a0, am_I a1, am_R 2 a2] (x, z) (cvV0 z q)) (he : e + 0 ≤ d) (hd : 4 ≤ d) (hh87 : ∀ (i0 : Nat) (v1 : Int32) (i2 : Nat) (i3 : Nat) (v4 : Int32) (x : am_X), am_To d (am_tab pX1_tryFrom) 87 ([(0, am_R 6 i0), (1, am_I v1), (2, am_R 2 i2), (3, am_R 4 i3), (4, am_I v4)], ([], (x, z))) (cvV0 z) (h87 i0 v1 i2 i3 v4 x)) (i0 : Nat) (v1 : Int32) (i2 : Nat) (i3 : Nat) (v4 : Int32) (v5 : Int32) (x : am_X) : am_To d (am_tab pX1_tryFrom) 123 ([(0, am_R 6 i0), (1, am_I v1), (2, am_R 2 i2), (3, am_R 4 i3), (4, am_I v4), (5, am_I v5)], ([], (x, z))) (cvV0 z) (b_X1_tryFrom_123 n rc h87 i0 v1 i2 i3 v4 v5 x) := by
  unfold b_X1_tryFrom_123
  refine to_if 3 (c := v5 = (9 : Int32)) (p1 := 140) (p2 := 130) (a' := ([(0, am_R 6 i0), (1, am_I v1), (2, am_R 2 i2), (3, am_R 4 i3), (4, am_I v4), (5, am_I v5)], ([], (x, z)))) rfl (fun c_1 => ?_) (fun c_1 => ?_)
  · refine to_fg [0, 1, 2, 3, 4, 5] (lv' := [(0, am_R 6 i0), (1, am_I v1), (2, am_R 2 i2), (3, am_R 4 i3), (4, am_I v4), (5, am_I v5)]) rfl ?_
    exact tb_X1_tryFrom_140 hrc (by omega) (by omega) hh87  i0 v1 i2 i3 v4 v5 x
  · refine to_cl 4 (lv := [(0, am_R 6 i0), (1, am_I v1), (2, am_R 2 i2), (3, am_R 4 i3), (4, am_I v4), (5, am_I v5)]) (st := []) (M := (x, z)) (cb := (cvI0 z)) rfl (fun q hq => t_X6_isFreeTo (by omega) hq) (fun q2 => ?_)
    refine to_if 1 (c := q2.1 = 0) (p1 := 192) (p2 := 140) (a' := ([(0, am_R 6 i0), (1, am_I v1), (2, am_R 2 i2), (3, am_R 4 i3), (4, am_I v4), (5, am_I v5)], ([], (q2.2, z)))) rfl (fun c_3 => ?_) (fun c_3 => ?_)
    · refine to_fg [0, 1, 2, 3, 4] (lv' := [(0, am_R 6 i0), (1, am_I v1), (2, am_R 2 i2), (3, am_R 4 i3), (4, am_I v4)]) rfl ?_
      exact tb_X1_tryFrom_192 hrc (by omega) (by omega) hh87  i0 v1 i2 i3 v4 q2.2
    · refine to_fg [0, 1, 2, 3, 4, 5] (lv' := [(0, am_R 6 i0), (1, am_I v1), (2, am_R 2 i2), (3, am_R 4 i3), (4, am_I v4), (5, am_I v5)]) rfl ?_
      exact tb_X1_tryFrom_140 hrc (by omega) (by omega) hh87  i0 v1 i2 i3 v4 v5 q2.2
def b_X1_tryFrom_111 (n : Nat) (rc : Nat → Int32 → Nat → am_X → Option (am_X)) (h87 : Nat → Int32 → Nat → Nat → Int32 → am_X → Option (am_X)) (i0 : Nat) (v1 : Int32) (i2 : Nat) (i3 : Nat) (v4 : Int32) (s0 : Int32) (x : am_X) : Option (am_X) := if ¬ v1 = 0 then (b_X1_tryFrom_123 n rc h87 i0 v1 i2 i3 v4 s0 x) else (b_X1_tryFrom_123 n rc h87 i0 v1 i2 i3 v4 s0 (sF x 6 3 i0 s0))
theorem tb_X1_tryFrom_111 {n : Nat} {rc : Nat → Int32 → Nat → am_X → Option (am_X)} {h87 : Nat → Int32 → Nat → Nat → Int32 → am_X → Option (am_X)} {d : Nat} {z : am_X} {e : Nat} (hrc : ∀ (a0 : Nat) (a1 : Int32) (a2 : Nat) (x z : am_X) q, rc a0 a1 a2 x = some q → am_Ev am_PR e 10 [am_R 6 a0, am_I a1, am_R 2 a2] (x, z) (cvV0 z q)) (he : e + 0 ≤ d) (hd : 4 ≤ d) (hh87 : ∀ (i0 : Nat) (v1 : Int32) (i2 : Nat) (i3 : Nat) (v4 : Int32) (x : am_X), am_To d (am_tab pX1_tryFrom) 87 ([(0, am_R 6 i0), (1, am_I v1), (2, am_R 2 i2), (3, am_R 4 i3), (4, am_I v4)], ([], (x, z))) (cvV0 z) (h87 i0 v1 i2 i3 v4 x)) (i0 : Nat) (v1 : Int32) (i2 : Nat) (i3 : Nat) (v4 : Int32) (s0 : Int32) (x : am_X) : am_To d (am_tab pX1_tryFrom) 111 ([(0, am_R 6 i0), (1, am_I v1), (2, am_R 2 i2), (3, am_R 4 i3), (4, am_I v4)], ([am_I s0], (x, z))) (cvV0 z) (b_X1_tryFrom_111 n rc h87 i0 v1 i2 i3 v4 s0 x) := by
  unfold b_X1_tryFrom_111
  refine to_if 3 (c := ¬ v1 = 0) (p1 := 123) (p2 := 117) (a' := ([(5, am_I s0), (0, am_R 6 i0), (1, am_I v1), (2, am_R 2 i2), (3, am_R 4 i3), (4, am_I v4)], ([], (x, z)))) rfl (fun c_1 => ?_) (fun c_1 => ?_)
  · refine to_fg [1, 2, 3, 4, 5, 0] (lv' := [(0, am_R 6 i0), (1, am_I v1), (2, am_R 2 i2), (3, am_R 4 i3), (4, am_I v4), (5, am_I s0)]) rfl ?_
    exact tb_X1_tryFrom_123 hrc (by omega) (by omega) hh87  i0 v1 i2 i3 v4 s0 x
  · refine to_go 3 (pc' := 123) (a' := ([(5, am_I s0), (0, am_R 6 i0), (1, am_I v1), (2, am_R 2 i2), (3, am_R 4 i3), (4, am_I v4)], ([], ((sF x 6 3 i0 s0), z)))) rfl ?_
    refine to_fg [1, 2, 3, 4, 5, 0] (lv' := [(0, am_R 6 i0), (1, am_I v1), (2, am_R 2 i2), (3, am_R 4 i3), (4, am_I v4), (5, am_I s0)]) rfl ?_
    exact tb_X1_tryFrom_123 hrc (by omega) (by omega) hh87  i0 v1 i2 i3 v4 s0 (sF x 6 3 i0 s0)
def b_X1_tryFrom_87 (n : Nat) (rc : Nat → Int32 → Nat → am_X → Option (am_X)) : Nat → Nat → Int32 → Nat → Nat → Int32 → am_X → Option (am_X)
  | 0, _, _, _, _, _, _ => none
  | k + 1, i0, v1, i2, i3, v4, x => if (7 : Int32) < v4 then (some x) else (if (7 : Int32) ≤ v4 then (b_X1_tryFrom_111 n rc (b_X1_tryFrom_87 n rc k) i0 v1 i2 i3 v4 (9 : Int32) x) else ((f_X8_actAt n v4 x).bind fun q3 => b_X1_tryFrom_111 n rc (b_X1_tryFrom_87 n rc k) i0 v1 i2 i3 v4 q3.1 q3.2))
theorem tb_X1_tryFrom_87 {n : Nat} {rc : Nat → Int32 → Nat → am_X → Option (am_X)} {d : Nat} {z : am_X} {e : Nat} (hrc : ∀ (a0 : Nat) (a1 : Int32) (a2 : Nat) (x z : am_X) q, rc a0 a1 a2 x = some q → am_Ev am_PR e 10 [am_R 6 a0, am_I a1, am_R 2 a2] (x, z) (cvV0 z q)) (he : e + 0 ≤ d) (hd : 4 ≤ d) : ∀ (k : Nat) (i0 : Nat) (v1 : Int32) (i2 : Nat) (i3 : Nat) (v4 : Int32) (x : am_X), am_To d (am_tab pX1_tryFrom) 87 ([(0, am_R 6 i0), (1, am_I v1), (2, am_R 2 i2), (3, am_R 4 i3), (4, am_I v4)], ([], (x, z))) (cvV0 z) (b_X1_tryFrom_87 n rc k i0 v1 i2 i3 v4 x) := by
  intro k
  induction k with
  | zero =>
    intro i0 v1 i2 i3 v4 x
    exact to_0
  | succ k ih =>
    intro i0 v1 i2 i3 v4 x
    rw [b_X1_tryFrom_87]
    refine to_if 3 (c := (7 : Int32) < v4) (p1 := 198) (p2 := 94) (a' := ([(0, am_R 6 i0), (1, am_I v1), (2, am_R 2 i2), (3, am_R 4 i3), (4, am_I v4)], ([], (x, z)))) rfl (fun c_1 => ?_) (fun c_1 => ?_)
    · exact to_rt 1 rfl
    · refine to_if 3 (c := (7 : Int32) ≤ v4) (p1 := 109) (p2 := 101) (a' := ([(0, am_R 6 i0), (1, am_I v1), (2, am_R 2 i2), (3, am_R 4 i3), (4, am_I v4)], ([], (x, z)))) rfl (fun c_2 => ?_) (fun c_2 => ?_)
      · refine to_go 1 (pc' := 111) (a' := ([(0, am_R 6 i0), (1, am_I v1), (2, am_R 2 i2), (3, am_R 4 i3), (4, am_I v4)], ([am_I (9 : Int32)], (x, z)))) rfl ?_
        refine to_fg [0, 1, 2, 3, 4] (lv' := [(0, am_R 6 i0), (1, am_I v1), (2, am_R 2 i2), (3, am_R 4 i3), (4, am_I v4)]) rfl ?_
        exact tb_X1_tryFrom_111 hrc (by omega) (by omega) ih  i0 v1 i2 i3 v4 (9 : Int32) x
      · refine to_cl 2 (lv := [(0, am_R 6 i0), (1, am_I v1), (2, am_R 2 i2), (3, am_R 4 i3), (4, am_I v4)]) (st := []) (M := (x, z)) (cb := (cvI0 z)) rfl (fun q hq => t_X8_actAt (by omega) hq) (fun q3 => ?_)
        refine to_go 1 (pc' := 111) (a' := ([(0, am_R 6 i0), (1, am_I v1), (2, am_R 2 i2), (3, am_R 4 i3), (4, am_I v4)], ([am_I q3.1], (q3.2, z)))) rfl ?_
        refine to_fg [0, 1, 2, 3, 4] (lv' := [(0, am_R 6 i0), (1, am_I v1), (2, am_R 2 i2), (3, am_R 4 i3), (4, am_I v4)]) rfl ?_
        exact tb_X1_tryFrom_111 hrc (by omega) (by omega) ih  i0 v1 i2 i3 v4 q3.1 q3.2
def g_X1_tryFrom (n : Nat) (rc : Nat → Int32 → Nat → am_X → Option (am_X)) (i0 : Nat) (v1 : Int32) (i2 : Nat) (x : am_X) : Option (am_X) := if v1 < 0 then (some x) else (if v1 ≤ (6 : Int32) then (if am_inB v1 7 = true then (if (xF x 6 1 i0) ≤ v1 then (b_X1_tryFrom_32 n rc i0 (13 + (Int32.toNatClampNeg v1)) x) else (if ¬ v1 = (6 : Int32) then ((f_X1_mostStill n (13 + (Int32.toNatClampNeg v1)) ((xF x 6 1 i0) - v1) i2 x).bind fun q6 => if (xF q6.2 6 4 i0) < ((xF x 4 2 (13 + (Int32.toNatClampNeg v1))) + q6.1) then (b_X1_tryFrom_87 n rc n i0 v1 i2 (13 + (Int32.toNatClampNeg v1)) (0 : Int32) q6.2) else (some q6.2)) else (b_X1_tryFrom_32 n rc i0 (13 + (Int32.toNatClampNeg v1)) x))) else none) else (some x))
theorem tg_X1_tryFrom {n : Nat} {rc : Nat → Int32 → Nat → am_X → Option (am_X)} {d : Nat} {e : Nat} (hrc : ∀ (a0 : Nat) (a1 : Int32) (a2 : Nat) (x z : am_X) q, rc a0 a1 a2 x = some q → am_Ev am_PR e 10 [am_R 6 a0, am_I a1, am_R 2 a2] (x, z) (cvV0 z q)) (he : e + 1 ≤ d) {i0 : Nat} {v1 : Int32} {i2 : Nat} {x z : am_X} {q : am_X} (hd : 5 ≤ d) (h : g_X1_tryFrom n rc i0 v1 i2 x = some q) : am_Ev am_PR d 10 [am_R 6 i0, am_I v1, am_R 2 i2] (x, z) (cvV0 z q) := by
  obtain ⟨d, rfl⟩ : ∃ e, d = e + 1 := ⟨d - 1, by omega⟩
  refine to_ev (P := (am_tab pX1_tryFrom)) rfl (lv := [(0, am_R 6 i0), (1, am_I v1), (2, am_R 2 i2)]) rfl ?_ q h
  unfold g_X1_tryFrom
  refine to_if 2 (c := v1 < 0) (p1 := 10) (p2 := 4) (a' := ([(0, am_R 6 i0), (1, am_I v1), (2, am_R 2 i2)], ([], (x, z)))) rfl (fun c_1 => ?_) (fun c_1 => ?_)
  · exact to_rt 1 rfl
  · refine to_if 3 (c := v1 ≤ (6 : Int32)) (p1 := 11) (p2 := 10) (a' := ([(0, am_R 6 i0), (1, am_I v1), (2, am_R 2 i2)], ([], (x, z)))) rfl (fun c_2 => ?_) (fun c_2 => ?_)
    · refine to_gd 3 16 (c := am_inB v1 7 = true) (pc' := 17) (a' := ([(0, am_R 6 i0), (1, am_I v1), (2, am_R 2 i2)], ([am_R 4 (13 + (Int32.toNatClampNeg v1))], (x, z)))) rfl rfl (fun c_3 => ?_)
      refine to_go 4 (pc' := 23) (a' := ([(3, am_R 4 (13 + (Int32.toNatClampNeg v1))), (0, am_R 6 i0), (1, am_I v1), (2, am_R 2 i2)], ([am_I (xF x 6 1 i0), am_I v1], (x, z)))) rfl ?_
      refine to_if 1 (c := (xF x 6 1 i0) ≤ v1) (p1 := 32) (p2 := 26) (a' := ([(3, am_R 4 (13 + (Int32.toNatClampNeg v1))), (0, am_R 6 i0), (1, am_I v1), (2, am_R 2 i2)], ([], (x, z)))) rfl (fun c_4 => ?_) (fun c_4 => ?_)
      · refine to_fg [1, 0] (lv' := [(0, am_R 6 i0), (3, am_R 4 (13 + (Int32.toNatClampNeg v1)))]) rfl ?_
        exact tb_X1_tryFrom_32 hrc (by omega) (by omega)  i0 (13 + (Int32.toNatClampNeg v1)) x
      · refine to_if 3 (c := ¬ v1 = (6 : Int32)) (p1 := 60) (p2 := 32) (a' := ([(3, am_R 4 (13 + (Int32.toNatClampNeg v1))), (0, am_R 6 i0), (1, am_I v1), (2, am_R 2 i2)], ([], (x, z)))) rfl (fun c_5 => ?_) (fun c_5 => ?_)
        · refine to_go 4 (pc' := 66) (a' := ([(3, am_R 4 (13 + (Int32.toNatClampNeg v1))), (0, am_R 6 i0), (1, am_I v1), (2, am_R 2 i2)], ([am_R 6 i0, am_R 4 (13 + (Int32.toNatClampNeg v1)), am_I (xF x 4 2 (13 + (Int32.toNatClampNeg v1)))], (x, z)))) rfl ?_
          refine to_go 4 (pc' := 72) (a' := ([(3, am_R 4 (13 + (Int32.toNatClampNeg v1))), (0, am_R 6 i0), (1, am_I v1), (2, am_R 2 i2)], ([am_R 2 i2, am_I ((xF x 6 1 i0) - v1), am_R 4 (13 + (Int32.toNatClampNeg v1)), am_I (xF x 4 2 (13 + (Int32.toNatClampNeg v1)))], (x, z)))) rfl ?_
          refine to_cl 1 (lv := [(3, am_R 4 (13 + (Int32.toNatClampNeg v1))), (0, am_R 6 i0), (1, am_I v1), (2, am_R 2 i2)]) (st := [am_I (xF x 4 2 (13 + (Int32.toNatClampNeg v1)))]) (M := (x, z)) (cb := (cvI0 z)) rfl (fun q hq => t_X1_mostStill (by omega) hq) (fun q6 => ?_)
          refine to_if 4 (c := (xF q6.2 6 4 i0) < ((xF x 4 2 (13 + (Int32.toNatClampNeg v1))) + q6.1)) (p1 := 84) (p2 := 83) (a' := ([(3, am_R 4 (13 + (Int32.toNatClampNeg v1))), (0, am_R 6 i0), (1, am_I v1), (2, am_R 2 i2)], ([], (q6.2, z)))) rfl (fun c_7 => ?_) (fun c_7 => ?_)
          · refine to_go 2 (pc' := 87) (a' := ([(4, am_I (0 : Int32)), (3, am_R 4 (13 + (Int32.toNatClampNeg v1))), (0, am_R 6 i0), (1, am_I v1), (2, am_R 2 i2)], ([], (q6.2, z)))) rfl ?_
            refine to_fg [2, 3, 4, 1, 0] (lv' := [(0, am_R 6 i0), (1, am_I v1), (2, am_R 2 i2), (3, am_R 4 (13 + (Int32.toNatClampNeg v1))), (4, am_I (0 : Int32))]) rfl ?_
            exact tb_X1_tryFrom_87 hrc (by omega) (by omega)  n i0 v1 i2 (13 + (Int32.toNatClampNeg v1)) (0 : Int32) q6.2
          · exact to_rt 1 rfl
        · refine to_fg [1, 0] (lv' := [(0, am_R 6 i0), (3, am_R 4 (13 + (Int32.toNatClampNeg v1)))]) rfl ?_
          exact tb_X1_tryFrom_32 hrc (by omega) (by omega)  i0 (13 + (Int32.toNatClampNeg v1)) x
    · exact to_rt 1 rfl
def f_X1_tryFrom (n : Nat) : Nat → Nat → Int32 → Nat → am_X → Option (am_X)
  | 0, _, _, _, _ => none
  | m + 1, i0, v1, i2, x => g_X1_tryFrom n (f_X1_tryFrom n m) i0 v1 i2 x
theorem t_X1_tryFrom {n : Nat} : ∀ (m : Nat) {d : Nat} {i0 : Nat} {v1 : Int32} {i2 : Nat} {x z : am_X} {q : am_X} (hd : 5 + 1 * m ≤ d) (h : f_X1_tryFrom n m i0 v1 i2 x = some q), am_Ev am_PR d 10 [am_R 6 i0, am_I v1, am_R 2 i2] (x, z) (cvV0 z q) := by
  intro m
  induction m with
  | zero =>
    intro d i0 v1 i2 x z q hd h
    cases h
  | succ m ih =>
    intro d i0 v1 i2 x z q hd h
    exact tg_X1_tryFrom (e := 5 + 1 * m) (fun i0 v1 i2 x z q hq => ih (Nat.le_refl _) hq) (by omega) (by omega) h
