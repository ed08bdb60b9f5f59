def b_X1_start_68 (n : Nat) (i0 : Nat) (i2 : Nat) (x : am_X) : Option (am_X) := (f_X1_tryFrom n 8 i0 (0 : Int32) i2 (sF (sF (sF x 6 4 i0 (-1 : Int32)) 6 5 i0 (9 : Int32)) 6 3 i0 (9 : Int32))).bind fun q1 => some q1
theorem tb_X1_start_68 {n : Nat} {d : Nat} {z : am_X} (hd : 13 ≤ d) (i0 : Nat) (i2 : Nat) (x : am_X) : am_To d (am_tab pX1_start) 68 ([(0, am_R 6 i0), (2, am_R 2 i2)], ([], (x, z))) (cvV0 z) (b_X1_start_68 n i0 i2 x) := by
  unfold b_X1_start_68
  refine to_go 4 (pc' := 74) (a' := ([(0, am_R 6 i0), (2, am_R 2 i2)], ([am_R 6 i0], ((sF x 6 4 i0 (-1 : Int32)), z)))) rfl ?_
  refine to_go 4 (pc' := 82) (a' := ([(0, am_R 6 i0), (2, am_R 2 i2)], ([am_I (9 : Int32), am_R 6 i0], ((sF (sF x 6 4 i0 (-1 : Int32)) 6 5 i0 (9 : Int32)), z)))) rfl ?_
  refine to_go 4 (pc' := 88) (a' := ([(0, am_R 6 i0), (2, am_R 2 i2)], ([am_R 2 i2, am_I (0 : Int32), am_R 6 i0], ((sF (sF (sF x 6 4 i0 (-1 : Int32)) 6 5 i0 (9 : Int32)) 6 3 i0 (9 : Int32)), z)))) rfl ?_
  refine to_cl 1 (lv := [(0, am_R 6 i0), (2, am_R 2 i2)]) (st := []) (M := ((sF (sF (sF x 6 4 i0 (-1 : Int32)) 6 5 i0 (9 : Int32)) 6 3 i0 (9 : Int32)), z)) (cb := (cvV0 z)) rfl (fun q hq => t_X1_tryFrom 8 (by omega) hq) (fun q1 => ?_)
  exact to_rt 1 rfl
def f_X1_start (n : Nat) (i0 : Nat) (i1 : Nat) (i2 : Nat) (v3 : Int32) (v4 : Int32) (x : am_X) : Option (am_X) := (f_X6_copy n 13 i1 x).bind fun q1 => if (xF q1 4 4 13) = 0 then (b_X1_start_68 n i0 i2 (sF (sF (sF q1 4 2 13 (0 : Int32)) 6 2 i0 v3) 6 1 i0 v4)) else ((f_X6_enter n 13 (xF (sF (sF (sF (sF q1 4 2 13 (0 : Int32)) 6 2 i0 v3) 6 1 i0 v4) 6 2 i0 (v3 + (1 : Int32))) 6 2 i0) i2 (sF (sF (sF (sF (sF q1 4 2 13 (0 : Int32)) 6 2 i0 v3) 6 1 i0 v4) 6 2 i0 (v3 + (1 : Int32))) 6 1 i0 (if (0 : Int32) < (v4 - (1 : Int32)) then (v4 - (1 : Int32)) else (0 : Int32)))).bind fun q3 => b_X1_start_68 n i0 i2 q3)
theorem t_X1_start {n : Nat} {d : Nat} {i0 : Nat} {i1 : Nat} {i2 : Nat} {v3 : Int32} {v4 : Int32} {x z : am_X} {q : am_X} (hd : 14 ≤ d) (h : f_X1_start n i0 i1 i2 v3 v4 x = some q) : am_Ev am_PR d 9 [am_R 6 i0, am_R 4 i1, am_R 2 i2, am_I v3, am_I v4] (x, z) (cvV0 z q) := by
  obtain ⟨d, rfl⟩ : ∃ e, d = e + 1 := ⟨d - 1, by omega⟩
  refine to_ev (P := (am_tab pX1_start)) rfl (lv := [(0, am_R 6 i0), (1, am_R 4 i1), (2, am_R 2 i2), (3, am_I v3), (4, am_I v4)]) rfl ?_ q h
  unfold f_X1_start
  refine to_gk 3 5 (c := am_inB (0 : Int32) 7 = true) (pc' := 6) (a' := ([(0, am_R 6 i0), (1, am_R 4 i1), (2, am_R 2 i2), (3, am_I v3), (4, am_I v4)], ([am_R 4 13], (x, z)))) rfl rfl (by decide) ?_
  refine to_cl 4 (lv := [(5, am_R 4 13), (0, am_R 6 i0), (1, am_R 4 i1), (2, am_R 2 i2), (3, am_I v3), (4, am_I v4)]) (st := []) (M := (x, z)) (cb := (cvV0 z)) rfl (fun q hq => t_X6_copy (by omega) hq) (fun q1 => ?_)
  refine to_go 4 (pc' := 21) (a' := ([(5, am_R 4 13), (0, am_R 6 i0), (1, am_R 4 i1), (2, am_R 2 i2), (3, am_I v3), (4, am_I v4)], ([am_R 6 i0], ((sF q1 4 2 13 (0 : Int32)), z)))) rfl ?_
  refine to_go 4 (pc' := 28) (a' := ([(5, am_R 4 13), (0, am_R 6 i0), (1, am_R 4 i1), (2, am_R 2 i2), (3, am_I v3), (4, am_I v4)], ([am_I v4, am_R 6 i0], ((sF (sF q1 4 2 13 (0 : Int32)) 6 2 i0 v3), z)))) rfl ?_
  refine to_if 4 (c := (xF q1 4 4 13) = 0) (p1 := 68) (p2 := 39) (a' := ([(5, am_R 4 13), (0, am_R 6 i0), (1, am_R 4 i1), (2, am_R 2 i2), (3, am_I v3), (4, am_I v4)], ([], ((sF (sF (sF q1 4 2 13 (0 : Int32)) 6 2 i0 v3) 6 1 i0 v4), z)))) rfl (fun c_2 => ?_) (fun c_2 => ?_)
  · refine to_fg [1, 3] (lv' := [(0, am_R 6 i0), (2, am_R 2 i2)]) rfl ?_
    exact tb_X1_start_68 (by omega)  i0 i2 (sF (sF (sF q1 4 2 13 (0 : Int32)) 6 2 i0 v3) 6 1 i0 v4)
  · refine to_go 4 (pc' := 43) (a' := ([(5, am_R 4 13), (0, am_R 6 i0), (1, am_R 4 i1), (2, am_R 2 i2), (3, am_I v3), (4, am_I v4)], ([am_I (v3 + (1 : Int32)), am_R 6 i0], ((sF (sF (sF q1 4 2 13 (0 : Int32)) 6 2 i0 v3) 6 1 i0 v4), z)))) rfl ?_
    refine to_go 4 (pc' := 50) (a' := ([(5, am_R 4 13), (0, am_R 6 i0), (1, am_R 4 i1), (2, am_R 2 i2), (3, am_I v3), (4, am_I v4)], ([am_I v4, am_I (0 : Int32), am_R 6 i0], ((sF (sF (sF (sF q1 4 2 13 (0 : Int32)) 6 2 i0 v3) 6 1 i0 v4) 6 2 i0 (v3 + (1 : Int32))), z)))) rfl ?_
    refine to_go 4 (pc' := 58) (a' := ([(5, am_R 4 13), (0, am_R 6 i0), (1, am_R 4 i1), (2, am_R 2 i2), (3, am_I v3), (4, am_I v4)], ([], ((sF (sF (sF (sF (sF q1 4 2 13 (0 : Int32)) 6 2 i0 v3) 6 1 i0 v4) 6 2 i0 (v3 + (1 : Int32))) 6 1 i0 (if (0 : Int32) < (v4 - (1 : Int32)) then (v4 - (1 : Int32)) else (0 : Int32))), z)))) rfl ?_
    refine to_go 4 (pc' := 65) (a' := ([(5, am_R 4 13), (0, am_R 6 i0), (1, am_R 4 i1), (2, am_R 2 i2), (3, am_I v3), (4, am_I v4)], ([am_R 2 i2, am_I (xF (sF (sF (sF (sF q1 4 2 13 (0 : Int32)) 6 2 i0 v3) 6 1 i0 v4) 6 2 i0 (v3 + (1 : Int32))) 6 2 i0), am_R 4 13], ((sF (sF (sF (sF (sF q1 4 2 13 (0 : Int32)) 6 2 i0 v3) 6 1 i0 v4) 6 2 i0 (v3 + (1 : Int32))) 6 1 i0 (if (0 : Int32) < (v4 - (1 : Int32)) then (v4 - (1 : Int32)) else (0 : Int32))), z)))) rfl ?_
    refine to_cl 1 (lv := [(5, am_R 4 13), (0, am_R 6 i0), (1, am_R 4 i1), (2, am_R 2 i2), (3, am_I v3), (4, am_I v4)]) (st := []) (M := ((sF (sF (sF (sF (sF q1 4 2 13 (0 : Int32)) 6 2 i0 v3) 6 1 i0 v4) 6 2 i0 (v3 + (1 : Int32))) 6 1 i0 (if (0 : Int32) < (v4 - (1 : Int32)) then (v4 - (1 : Int32)) else (0 : Int32))), z)) (cb := (cvV0 z)) rfl (fun q hq => t_X6_enter (by omega) hq) (fun q3 => ?_)
    refine to_fg [1, 3] (lv' := [(0, am_R 6 i0), (2, am_R 2 i2)]) rfl ?_
    exact tb_X1_start_68 (by omega)  i0 i2 q3
def f_X2_isNumber (n : Nat) (v0 : Int32) (x : am_X) : Option (Int32 × am_X) := if v0 < 0 then (some ((0 : Int32), x)) else (if (5 : Int32) ≤ v0 then (some ((0 : Int32), x)) else (some ((1 : Int32), x)))
theorem t_X2_isNumber {n : Nat} {d : Nat} {v0 : Int32} {x z : am_X} {q : Int32 × am_X} (hd : 1 ≤ d) (h : f_X2_isNumber n v0 x = some q) : am_Ev am_PR d 12 [am_I v0] (x, z) (cvI0 z q) := by
  obtain ⟨d, rfl⟩ : ∃ e, d = e + 1 := ⟨d - 1, by omega⟩
  refine to_ev (P := (am_tab pX2_isNumber)) rfl (lv := [(0, am_I v0)]) rfl ?_ q h
  unfold f_X2_isNumber
  refine to_if 2 (c := v0 < 0) (p1 := 16) (p2 := 4) (a' := ([(0, am_I v0)], ([], (x, z)))) rfl (fun c_1 => ?_) (fun c_1 => ?_)
  · exact to_rk 1 17 (c := am_bz (0 : Int32) = true) (r := ((0 : Int32), x)) rfl rfl (by decide)
  · refine to_if 4 (c := (5 : Int32) ≤ v0) (p1 := 16) (p2 := 12) (a' := ([(0, am_I v0)], ([], (x, z)))) rfl (fun c_2 => ?_) (fun c_2 => ?_)
    · exact to_rk 1 17 (c := am_bz (0 : Int32) = true) (r := ((0 : Int32), x)) rfl rfl (by decide)
    · exact to_rk 2 17 (c := am_bz (1 : Int32) = true) (r := ((1 : Int32), x)) rfl rfl (by decide)
def f_X2_numbered (n : Nat) (v0 : Int32) (x : am_X) : Option (Nat × am_X) := if v0 < 0 then (some (0, x)) else (if (5 : Int32) ≤ v0 then (some (0, x)) else (if am_inB v0 5 = true then (some ((Int32.toNatClampNeg v0), x)) else none))
theorem t_X2_numbered {n : Nat} {d : Nat} {v0 : Int32} {x z : am_X} {q : Nat × am_X} (hd : 1 ≤ d) (h : f_X2_numbered n v0 x = some q) : am_Ev am_PR d 13 [am_I v0] (x, z) (cvA0 20 z q) := by
  obtain ⟨d, rfl⟩ : ∃ e, d = e + 1 := ⟨d - 1, by omega⟩
  refine to_ev (P := (am_tab pX2_numbered)) rfl (lv := [(0, am_I v0)]) rfl ?_ q h
  unfold f_X2_numbered
  refine to_if 2 (c := v0 < 0) (p1 := 20) (p2 := 4) (a' := ([(0, am_I v0)], ([], (x, z)))) rfl (fun c_1 => ?_) (fun c_1 => ?_)
  · exact to_rt 2 (r := (0, x)) rfl
  · refine to_if 4 (c := (5 : Int32) ≤ v0) (p1 := 20) (p2 := 12) (a' := ([(0, am_I v0)], ([], (x, z)))) rfl (fun c_2 => ?_) (fun c_2 => ?_)
    · exact to_rt 2 (r := (0, x)) rfl
    · refine to_gd 2 16 (c := am_inB v0 5 = true) (pc' := 17) (a' := ([(0, am_I v0)], ([am_R 20 (Int32.toNatClampNeg v0)], (x, z)))) rfl rfl (fun c_3 => ?_)
      exact to_rt 2 (r := ((Int32.toNatClampNeg v0), x)) rfl
def f_X2_isA (n : Nat) (i0 : Nat) (i1 : Nat) (x : am_X) : Option (Int32 × am_X) := if i0 = i1 then (some ((1 : Int32), x)) else (if i1 = 0 then (some ((1 : Int32), x)) else (if ¬ i0 = 4 then (some ((0 : Int32), x)) else (if ¬ i1 = 3 then (some ((0 : Int32), x)) else (some ((1 : Int32), x)))))
theorem t_X2_isA {n : Nat} {d : Nat} {i0 : Nat} {i1 : Nat} {x z : am_X} {q : Int32 × am_X} (hd : 1 ≤ d) (h : f_X2_isA n i0 i1 x = some q) : am_Ev am_PR d 14 [am_R 20 i0, am_R 20 i1] (x, z) (cvI0 z q) := by
  obtain ⟨d, rfl⟩ : ∃ e, d = e + 1 := ⟨d - 1, by omega⟩
  refine to_ev (P := (am_tab pX2_isA)) rfl (lv := [(0, am_R 20 i0), (1, am_R 20 i1)]) rfl ?_ q h
  unfold f_X2_isA
  refine to_if 3 (c := i0 = i1) (p1 := 26) (p2 := 5) (a' := ([(0, am_R 20 i0), (1, am_R 20 i1)], ([], (x, z)))) rfl (fun c_1 => ?_) (fun c_1 => ?_)
  · exact to_rk 2 31 (c := am_bz (1 : Int32) = true) (r := ((1 : Int32), x)) rfl rfl (by decide)
  · refine to_if 3 (c := i1 = 0) (p1 := 26) (p2 := 12) (a' := ([(0, am_R 20 i0), (1, am_R 20 i1)], ([], (x, z)))) rfl (fun c_2 => ?_) (fun c_2 => ?_)
    · exact to_rk 2 31 (c := am_bz (1 : Int32) = true) (r := ((1 : Int32), x)) rfl rfl (by decide)
    · refine to_if 3 (c := ¬ i0 = 4) (p1 := 30) (p2 := 19) (a' := ([(0, am_R 20 i0), (1, am_R 20 i1)], ([], (x, z)))) rfl (fun c_3 => ?_) (fun c_3 => ?_)
      · exact to_rk 1 31 (c := am_bz (0 : Int32) = true) (r := ((0 : Int32), x)) rfl rfl (by decide)
      · refine to_if 3 (c := ¬ i1 = 3) (p1 := 30) (p2 := 26) (a' := ([(0, am_R 20 i0), (1, am_R 20 i1)], ([], (x, z)))) rfl (fun c_4 => ?_) (fun c_4 => ?_)
        · exact to_rk 1 31 (c := am_bz (0 : Int32) = true) (r := ((0 : Int32), x)) rfl rfl (by decide)
        · exact to_rk 2 31 (c := am_bz (1 : Int32) = true) (r := ((1 : Int32), x)) rfl rfl (by decide)
def b_X3_copy_2 (n : Nat) : Nat → Nat → Nat → Int32 → am_X → Option (am_X)
  | 0, _, _, _, _ => none
  | k + 1, i0, i1, v2, x => if (4 : Int32) ≤ v2 then (some (sF x 2 3 i0 (xF x 2 3 i1))) else (if am_inB v2 4 = true then (if am_inB v2 4 = true then (if am_inB v2 4 = true then (if am_inB v2 4 = true then (if am_inB v2 4 = true then (if am_inB v2 4 = true then (b_X3_copy_2 n k i0 i1 (v2 + (1 : Int32)) (sA (sA (sA x 9 i0 (Int32.toNatClampNeg v2) (xA x 9 i1 (Int32.toNatClampNeg v2))) 10 i0 (Int32.toNatClampNeg v2) (xA x 10 i1 (Int32.toNatClampNeg v2))) 11 i0 (Int32.toNatClampNeg v2) (xA x 11 i1 (Int32.toNatClampNeg v2)))) else none) else none) else none) else none) else none) else none)
theorem tb_X3_copy_2 {n : Nat} {d : Nat} {z : am_X} (hd : 0 ≤ d) : ∀ (k : Nat) (i0 : Nat) (i1 : Nat) (v2 : Int32) (x : am_X), am_To d (am_tab pX3_copy) 2 ([(0, am_R 2 i0), (1, am_R 2 i1), (2, am_I v2)], ([], (x, z))) (cvV0 z) (b_X3_copy_2 n k i0 i1 v2 x) := by
  intro k
  induction k with
  | zero =>
    intro i0 i1 v2 x
    exact to_0
  | succ k ih =>
    intro i0 i1 v2 x
    rw [b_X3_copy_2]
    refine to_if 3 (c := (4 : Int32) ≤ v2) (p1 := 49) (p2 := 7) (a' := ([(0, am_R 2 i0), (1, am_R 2 i1), (2, am_I v2)], ([], (x, z)))) rfl (fun c_1 => ?_) (fun c_1 => ?_)
    · refine to_go 4 (pc' := 57) (a' := ([(0, am_R 2 i0), (1, am_R 2 i1), (2, am_I v2)], ([], ((sF x 2 3 i0 (xF x 2 3 i1)), z)))) rfl ?_
      exact to_rt 1 rfl
    · refine to_go 4 (pc' := 13) (a' := ([(0, am_R 2 i0), (1, am_R 2 i1), (2, am_I v2)], ([am_R 2 i1, am_I v2, am_R 9 i0], (x, z)))) rfl ?_
      refine to_gd 2 17 (c := am_inB v2 4 = true) (pc' := 18) (a' := ([(0, am_R 2 i0), (1, am_R 2 i1), (2, am_I v2)], ([am_I (xA x 9 i1 (Int32.toNatClampNeg v2)), am_I v2, am_R 9 i0], (x, z)))) rfl rfl (fun c_2 => ?_)
      refine to_gd 0 18 (c := am_inB v2 4 = true) (pc' := 19) (a' := ([(0, am_R 2 i0), (1, am_R 2 i1), (2, am_I v2)], ([], ((sA x 9 i0 (Int32.toNatClampNeg v2) (xA x 9 i1 (Int32.toNatClampNeg v2))), z)))) rfl rfl (fun c_3 => ?_)
      refine to_go 4 (pc' := 25) (a' := ([(0, am_R 2 i0), (1, am_R 2 i1), (2, am_I v2)], ([am_R 2 i1, am_I v2, am_R 10 i0], ((sA x 9 i0 (Int32.toNatClampNeg v2) (xA x 9 i1 (Int32.toNatClampNeg v2))), z)))) rfl ?_
      refine to_gd 2 29 (c := am_inB v2 4 = true) (pc' := 30) (a' := ([(0, am_R 2 i0), (1, am_R 2 i1), (2, am_I v2)], ([am_I (xA x 10 i1 (Int32.toNatClampNeg v2)), am_I v2, am_R 10 i0], ((sA x 9 i0 (Int32.toNatClampNeg v2) (xA x 9 i1 (Int32.toNatClampNeg v2))), z)))) rfl rfl (fun c_4 => ?_)
      refine to_gd 0 30 (c := am_inB v2 4 = true) (pc' := 31) (a' := ([(0, am_R 2 i0), (1, am_R 2 i1), (2, am_I v2)], ([], ((sA (sA x 9 i0 (Int32.toNatClampNeg v2) (xA x 9 i1 (Int32.toNatClampNeg v2))) 10 i0 (Int32.toNatClampNeg v2) (xA x 10 i1 (Int32.toNatClampNeg v2))), z)))) rfl rfl (fun c_5 => ?_)
      refine to_go 4 (pc' := 37) (a' := ([(0, am_R 2 i0), (1, am_R 2 i1), (2, am_I v2)], ([am_R 2 i1, am_I v2, am_R 11 i0], ((sA (sA x 9 i0 (Int32.toNatClampNeg v2) (xA x 9 i1 (Int32.toNatClampNeg v2))) 10 i0 (Int32.toNatClampNeg v2) (xA x 10 i1 (Int32.toNatClampNeg v2))), z)))) rfl ?_
      refine to_gd 2 41 (c := am_inB v2 4 = true) (pc' := 42) (a' := ([(0, am_R 2 i0), (1, am_R 2 i1), (2, am_I v2)], ([am_I (xA x 11 i1 (Int32.toNatClampNeg v2)), am_I v2, am_R 11 i0], ((sA (sA x 9 i0 (Int32.toNatClampNeg v2) (xA x 9 i1 (Int32.toNatClampNeg v2))) 10 i0 (Int32.toNatClampNeg v2) (xA x 10 i1 (Int32.toNatClampNeg v2))), z)))) rfl rfl (fun c_6 => ?_)
      refine to_gd 0 42 (c := am_inB v2 4 = true) (pc' := 43) (a' := ([(0, am_R 2 i0), (1, am_R 2 i1), (2, am_I v2)], ([], ((sA (sA (sA x 9 i0 (Int32.toNatClampNeg v2) (xA x 9 i1 (Int32.toNatClampNeg v2))) 10 i0 (Int32.toNatClampNeg v2) (xA x 10 i1 (Int32.toNatClampNeg v2))) 11 i0 (Int32.toNatClampNeg v2) (xA x 11 i1 (Int32.toNatClampNeg v2))), z)))) rfl rfl (fun c_7 => ?_)
      refine to_go 2 (pc' := 2) (a' := ([(2, am_I (v2 + (1 : Int32))), (0, am_R 2 i0), (1, am_R 2 i1)], ([], ((sA (sA (sA x 9 i0 (Int32.toNatClampNeg v2) (xA x 9 i1 (Int32.toNatClampNeg v2))) 10 i0 (Int32.toNatClampNeg v2) (xA x 10 i1 (Int32.toNatClampNeg v2))) 11 i0 (Int32.toNatClampNeg v2) (xA x 11 i1 (Int32.toNatClampNeg v2))), z)))) rfl ?_
      refine to_fg [1, 2, 0] (lv' := [(0, am_R 2 i0), (1, am_R 2 i1), (2, am_I (v2 + (1 : Int32)))]) rfl ?_
      exact ih i0 i1 (v2 + (1 : Int32)) (sA (sA (sA x 9 i0 (Int32.toNatClampNeg v2) (xA x 9 i1 (Int32.toNatClampNeg v2))) 10 i0 (Int32.toNatClampNeg v2) (xA x 10 i1 (Int32.toNatClampNeg v2))) 11 i0 (Int32.toNatClampNeg v2) (xA x 11 i1 (Int32.toNatClampNeg v2)))
def f_X3_copy (n : Nat) (i0 : Nat) (i1 : Nat) (x : am_X) : Option (am_X) := b_X3_copy_2 n n i0 i1 (0 : Int32) x
theorem t_X3_copy {n : Nat} {d : Nat} {i0 : Nat} {i1 : Nat} {x z : am_X} {q : am_X} (hd : 1 ≤ d) (h : f_X3_copy n i0 i1 x = some q) : am_Ev am_PR d 18 [am_R 2 i0, am_R 2 i1] (x, z) (cvV0 z q) := by
  obtain ⟨d, rfl⟩ : ∃ e, d = e + 1 := ⟨d - 1, by omega⟩
  refine to_ev (P := (am_tab pX3_copy)) rfl (lv := [(0, am_R 2 i0), (1, am_R 2 i1)]) rfl ?_ q h
  unfold f_X3_copy
  refine to_go 2 (pc' := 2) (a' := ([(2, am_I (0 : Int32)), (0, am_R 2 i0), (1, am_R 2 i1)], ([], (x, z)))) rfl ?_
  refine to_fg [1, 2, 0] (lv' := [(0, am_R 2 i0), (1, am_R 2 i1), (2, am_I (0 : Int32))]) rfl ?_
  exact tb_X3_copy_2 (by omega)  n i0 i1 (0 : Int32) x
def b_X3_allTerms_4 (n : Nat) : Nat → Nat → Int32 → Int32 → am_X → Option (Int32 × am_X)
  | 0, _, _, _, _ => none
  | k + 1, i0, v1, v2, x => if (4 : Int32) ≤ v2 then (some (v1, x)) else (if am_inB v2 4 = true then (b_X3_allTerms_4 n k i0 (v1 + (xA x 9 i0 (Int32.toNatClampNeg v2))) (v2 + (1 : Int32)) x) else none)
theorem tb_X3_allTerms_4 {n : Nat} {d : Nat} {z : am_X} (hd : 0 ≤ d) : ∀ (k : Nat) (i0 : Nat) (v1 : Int32) (v2 : Int32) (x : am_X), am_To d (am_tab pX3_allTerms) 4 ([(0, am_R 2 i0), (1, am_I v1), (2, am_I v2)], ([], (x, z))) (cvI0 z) (b_X3_allTerms_4 n k i0 v1 v2 x) := by
  intro k
  induction k with
  | zero =>
    intro i0 v1 v2 x
    exact to_0
  | succ k ih =>
    intro i0 v1 v2 x
    rw [b_X3_allTerms_4]
    refine to_if 3 (c := (4 : Int32) ≤ v2) (p1 := 24) (p2 := 9) (a' := ([(0, am_R 2 i0), (1, am_I v1), (2, am_I v2)], ([], (x, z)))) rfl (fun c_1 => ?_) (fun c_1 => ?_)
    · exact to_rt 2 (r := (v1, x)) rfl
    · refine to_go 4 (pc' := 15) (a' := ([(0, am_R 2 i0), (1, am_I v1), (2, am_I v2)], ([am_I v2, am_R 9 i0, am_I v1], (x, z)))) rfl ?_
      refine to_gd 0 15 (c := am_inB v2 4 = true) (pc' := 16) (a' := ([(0, am_R 2 i0), (1, am_I v1), (2, am_I v2)], ([am_I (xA x 9 i0 (Int32.toNatClampNeg v2)), am_I v1], (x, z)))) rfl rfl (fun c_2 => ?_)
      refine to_go 4 (pc' := 4) (a' := ([(2, am_I (v2 + (1 : Int32))), (1, am_I (v1 + (xA x 9 i0 (Int32.toNatClampNeg v2)))), (0, am_R 2 i0)], ([], (x, z)))) rfl ?_
      refine to_fg [2, 1, 0] (lv' := [(0, am_R 2 i0), (1, am_I (v1 + (xA x 9 i0 (Int32.toNatClampNeg v2)))), (2, am_I (v2 + (1 : Int32)))]) rfl ?_
      exact ih i0 (v1 + (xA x 9 i0 (Int32.toNatClampNeg v2))) (v2 + (1 : Int32)) x
def f_X3_allTerms (n : Nat) (i0 : Nat) (x : am_X) : Option (Int32 × am_X) := b_X3_allTerms_4 n n i0 (0 : Int32) (0 : Int32) x
theorem t_X3_allTerms {n : Nat} {d : Nat} {i0 : Nat} {x z : am_X} {q : Int32 × am_X} (hd : 1 ≤ d) (h : f_X3_allTerms n i0 x = some q) : am_Ev am_PR d 22 [am_R 2 i0] (x, z) (cvI0 z q) := by
  obtain ⟨d, rfl⟩ : ∃ e, d = e + 1 := ⟨d - 1, by omega⟩
  refine to_ev (P := (am_tab pX3_allTerms)) rfl (lv := [(0, am_R 2 i0)]) rfl ?_ q h
  unfold f_X3_allTerms
  refine to_go 4 (pc' := 4) (a' := ([(2, am_I (0 : Int32)), (1, am_I (0 : Int32)), (0, am_R 2 i0)], ([], (x, z)))) rfl ?_
  refine to_fg [2, 1, 0] (lv' := [(0, am_R 2 i0), (1, am_I (0 : Int32)), (2, am_I (0 : Int32))]) rfl ?_
  exact tb_X3_allTerms_4 (by omega)  n i0 (0 : Int32) (0 : Int32) x
def f_X4_close (n : Nat) (i0 : Nat) (x : am_X) : Option (am_X) := some (sF (sF x 7 2 i0 (0 : Int32)) 7 3 i0 (0 : Int32))
theorem t_X4_close {n : Nat} {d : Nat} {i0 : Nat} {x z : am_X} {q : am_X} (hd : 1 ≤ d) (h : f_X4_close n i0 x = some q) : am_Ev am_PR d 24 [am_R 7 i0] (x, z) (cvV0 z q) := by
  obtain ⟨d, rfl⟩ : ∃ e, d = e + 1 := ⟨d - 1, by omega⟩
  refine to_ev (P := (am_tab pX4_close)) rfl (lv := [(0, am_R 7 i0)]) rfl ?_ q h
  unfold f_X4_close
  refine to_gk 2 2 (c := am_bz (0 : Int32) = true) (pc' := 5) (a' := ([(0, am_R 7 i0)], ([], ((sF x 7 2 i0 (0 : Int32)), z)))) rfl rfl (by decide) ?_
  exact to_rt 4 rfl
def f_X4_open (n : Nat) (i0 : Nat) (i1 : Nat) (v2 : Int32) (x : am_X) : Option (am_X) := (f_X6_copy n 20 i1 (sF (sF (sF x 7 2 i0 (1 : Int32)) 7 3 i0 (0 : Int32)) 7 4 i0 v2)).bind fun q1 => some q1
theorem t_X4_open {n : Nat} {d : Nat} {i0 : Nat} {i1 : Nat} {v2 : Int32} {x z : am_X} {q : am_X} (hd : 3 ≤ d) (h : f_X4_open n i0 i1 v2 x = some q) : am_Ev am_PR d 25 [am_R 7 i0, am_R 4 i1, am_I v2] (x, z) (cvV0 z q) := by
  obtain ⟨d, rfl⟩ : ∃ e, d = e + 1 := ⟨d - 1, by omega⟩
  refine to_ev (P := (am_tab pX4_open)) rfl (lv := [(0, am_R 7 i0), (1, am_R 4 i1), (2, am_I v2)]) rfl ?_ q h
  unfold f_X4_open
  refine to_gk 2 2 (c := am_bz (1 : Int32) = true) (pc' := 5) (a' := ([(0, am_R 7 i0), (1, am_R 4 i1), (2, am_I v2)], ([], ((sF x 7 2 i0 (1 : Int32)), z)))) rfl rfl (by decide) ?_
  refine to_go 4 (pc' := 11) (a' := ([(0, am_R 7 i0), (1, am_R 4 i1), (2, am_I v2)], ([am_R 7 i0], ((sF (sF x 7 2 i0 (1 : Int32)) 7 3 i0 (0 : Int32)), z)))) rfl ?_
  refine to_go 4 (pc' := 19) (a' := ([(0, am_R 7 i0), (1, am_R 4 i1), (2, am_I v2)], ([am_R 16 0], ((sF (sF (sF x 7 2 i0 (1 : Int32)) 7 3 i0 (0 : Int32)) 7 4 i0 v2), z)))) rfl ?_
  refine to_gk 1 20 (c := am_inB (0 : Int32) 5 = true) (pc' := 21) (a' := ([(0, am_R 7 i0), (1, am_R 4 i1), (2, am_I v2)], ([am_R 4 20], ((sF (sF (sF x 7 2 i0 (1 : Int32)) 7 3 i0 (0 : Int32)) 7 4 i0 v2), z)))) rfl rfl (by decide) ?_
  refine to_cl 2 (lv := [(0, am_R 7 i0), (1, am_R 4 i1), (2, am_I v2)]) (st := []) (M := ((sF (sF (sF x 7 2 i0 (1 : Int32)) 7 3 i0 (0 : Int32)) 7 4 i0 v2), z)) (cb := (cvV0 z)) rfl (fun q hq => t_X6_copy (by omega) hq) (fun q1 => ?_)
  exact to_rt 1 rfl
def f_X4_hasRoom (n : Nat) (i0 : Nat) (x : am_X) : Option (Int32 × am_X) := if (5 : Int32) ≤ (xF x 7 3 i0) then (some ((0 : Int32), x)) else (some ((1 : Int32), x))
theorem t_X4_hasRoom {n : Nat} {d : Nat} {i0 : Nat} {x z : am_X} {q : Int32 × am_X} (hd : 1 ≤ d) (h : f_X4_hasRoom n i0 x = some q) : am_Ev am_PR d 26 [am_R 7 i0] (x, z) (cvI0 z q) := by
  obtain ⟨d, rfl⟩ : ∃ e, d = e + 1 := ⟨d - 1, by omega⟩
  refine to_ev (P := (am_tab pX4_hasRoom)) rfl (lv := [(0, am_R 7 i0)]) rfl ?_ q h
  unfold f_X4_hasRoom
  refine to_if 4 (c := (5 : Int32) ≤ (xF x 7 3 i0)) (p1 := 12) (p2 := 8) (a' := ([(0, am_R 7 i0)], ([], (x, z)))) rfl (fun c_1 => ?_) (fun c_1 => ?_)
  · exact to_rk 1 13 (c := am_bz (0 : Int32) = true) (r := ((0 : Int32), x)) rfl rfl (by decide)
  · exact to_rk 2 13 (c := am_bz (1 : Int32) = true) (r := ((1 : Int32), x)) rfl rfl (by decide)
def f_X4_write (n : Nat) (i0 : Nat) (v1 : Int32) (x : am_X) : Option (am_X) := if (xF x 7 3 i0) < 0 then (some x) else (if (5 : Int32) ≤ (xF x 7 3 i0) then (some x) else (if am_inB (xF x 7 3 i0) 5 = true then (some (sF (sA x 15 0 (Int32.toNatClampNeg (xF x 7 3 i0)) v1) 7 3 i0 ((xF x 7 3 i0) + (1 : Int32)))) else none))
theorem t_X4_write {n : Nat} {d : Nat} {i0 : Nat} {v1 : Int32} {x z : am_X} {q : am_X} (hd : 1 ≤ d) (h : f_X4_write n i0 v1 x = some q) : am_Ev am_PR d 27 [am_R 7 i0, am_I v1] (x, z) (cvV0 z q) := by
  obtain ⟨d, rfl⟩ : ∃ e, d = e + 1 := ⟨d - 1, by omega⟩
  refine to_ev (P := (am_tab pX4_write)) rfl (lv := [(0, am_R 7 i0), (1, am_I v1)]) rfl ?_ q h
  unfold f_X4_write
  refine to_if 3 (c := (xF x 7 3 i0) < 0) (p1 := 35) (p2 := 7) (a' := ([(0, am_R 7 i0), (1, am_I v1)], ([], (x, z)))) rfl (fun c_1 => ?_) (fun c_1 => ?_)
  · exact to_rt 1 rfl
  · refine to_if 4 (c := (5 : Int32) ≤ (xF x 7 3 i0)) (p1 := 35) (p2 := 15) (a' := ([(0, am_R 7 i0), (1, am_I v1)], ([], (x, z)))) rfl (fun c_2 => ?_) (fun c_2 => ?_)
    · exact to_rt 1 rfl
    · refine to_go 4 (pc' := 23) (a' := ([(0, am_R 7 i0), (1, am_I v1)], ([am_I (xF x 7 3 i0), am_R 15 0], (x, z)))) rfl ?_
      refine to_gd 1 24 (c := am_inB (xF x 7 3 i0) 5 = true) (pc' := 25) (a' := ([(0, am_R 7 i0), (1, am_I v1)], ([], ((sA x 15 0 (Int32.toNatClampNeg (xF x 7 3 i0)) v1), z)))) rfl rfl (fun c_3 => ?_)
      refine to_go 4 (pc' := 31) (a' := ([(0, am_R 7 i0), (1, am_I v1)], ([am_I (1 : Int32), am_I (xF x 7 3 i0), am_R 7 i0], ((sA x 15 0 (Int32.toNatClampNeg (xF x 7 3 i0)) v1), z)))) rfl ?_
      exact to_rt 3 rfl
def f_X4_reckon (n : Nat) (i0 : Nat) (v1 : Int32) (x : am_X) : Option (am_X) := some (sF (sF x 7 5 i0 ((xF x 7 5 i0) + (1 : Int32))) 7 6 i0 (if (xF x 7 6 i0) < v1 then v1 else (xF x 7 6 i0)))
theorem t_X4_reckon {n : Nat} {d : Nat} {i0 : Nat} {v1 : Int32} {x z : am_X} {q : am_X} (hd : 1 ≤ d) (h : f_X4_reckon n i0 v1 x = some q) : am_Ev am_PR d 29 [am_R 7 i0, am_I v1] (x, z) (cvV0 z q) := by
  obtain ⟨d, rfl⟩ : ∃ e, d = e + 1 := ⟨d - 1, by omega⟩
  refine to_ev (P := (am_tab pX4_reckon)) rfl (lv := [(0, am_R 7 i0), (1, am_I v1)]) rfl ?_ q h
  unfold f_X4_reckon
  refine to_go 4 (pc' := 6) (a' := ([(0, am_R 7 i0), (1, am_I v1)], ([am_I (1 : Int32), am_I (xF x 7 5 i0), am_R 7 i0], (x, z)))) rfl ?_
  refine to_go 4 (pc' := 12) (a' := ([(0, am_R 7 i0), (1, am_I v1)], ([am_R 7 i0, am_R 7 i0], ((sF x 7 5 i0 ((xF x 7 5 i0) + (1 : Int32))), z)))) rfl ?_
  refine to_go 4 (pc' := 22) (a' := ([(0, am_R 7 i0), (1, am_I v1)], ([], ((sF (sF x 7 5 i0 ((xF x 7 5 i0) + (1 : Int32))) 7 6 i0 (if (xF x 7 6 i0) < v1 then v1 else (xF x 7 6 i0))), z)))) rfl ?_
  exact to_rt 1 rfl
def f_X4_goOn (n : Nat) (rc : Nat → Int32 → Nat → am_X → Option (am_X)) (i0 : Nat) (v1 : Int32) (v2 : Int32) (i3 : Nat) (x : am_X) : Option (am_X) := if v1 < 0 then (some x) else (if v1 < (4 : Int32) then (if am_inB (v1 + (1 : Int32)) 5 = true then (if am_inB v1 5 = true then ((f_X6_copy n (20 + (Int32.toNatClampNeg (v1 + (1 : Int32)))) (20 + (Int32.toNatClampNeg v1)) x).bind fun q5 => (f_X6_does n (20 + (Int32.toNatClampNeg (v1 + (1 : Int32)))) v2 i3 ((xF q5 7 4 i0) + v1) q5).bind fun q6 => (f_X6_enter n (20 + (Int32.toNatClampNeg (v1 + (1 : Int32)))) (((xF q6 7 4 i0) + v1) + (1 : Int32)) i3 q6).bind fun q7 => (rc i0 (v1 + (1 : Int32)) i3 q7).bind fun q8 => some q8) else none) else none) else (some x))
theorem t_X4_goOn {n : Nat} {rc : Nat → Int32 → Nat → am_X → Option (am_X)} {d : Nat} {e : Nat} (hrc : ∀ (a0 : Nat) (a1 : Int32) (a2 : Nat) (x z : am_X) q, rc a0 a1 a2 x = some q → am_Ev am_PR e 30 [am_R 7 a0, am_I a1, am_R 2 a2] (x, z) (cvV0 z q)) (he : e + 1 ≤ d) {i0 : Nat} {v1 : Int32} {v2 : Int32} {i3 : Nat} {x z : am_X} {q : am_X} (hd : 5 ≤ d) (h : f_X4_goOn n rc i0 v1 v2 i3 x = some q) : am_Ev am_PR d 31 [am_R 7 i0, am_I v1, am_I v2, am_R 2 i3] (x, z) (cvV0 z q) := by
  obtain ⟨d, rfl⟩ : ∃ e, d = e + 1 := ⟨d - 1, by omega⟩
  refine to_ev (P := (am_tab pX4_goOn)) rfl (lv := [(0, am_R 7 i0), (1, am_I v1), (2, am_I v2), (3, am_R 2 i3)]) rfl ?_ q h
  unfold f_X4_goOn
  refine to_if 2 (c := v1 < 0) (p1 := 9) (p2 := 4) (a' := ([(0, am_R 7 i0), (1, am_I v1), (2, am_I v2), (3, am_R 2 i3)], ([], (x, z)))) rfl (fun c_1 => ?_) (fun c_1 => ?_)
  · exact to_rt 1 rfl
  · refine to_if 3 (c := v1 < (4 : Int32)) (p1 := 10) (p2 := 9) (a' := ([(0, am_R 7 i0), (1, am_I v1), (2, am_I v2), (3, am_R 2 i3)], ([], (x, z)))) rfl (fun c_2 => ?_) (fun c_2 => ?_)
    · refine to_go 4 (pc' := 16) (a' := ([(0, am_R 7 i0), (1, am_I v1), (2, am_I v2), (3, am_R 2 i3)], ([am_I (1 : Int32), am_I v1, am_R 16 0], (x, z)))) rfl ?_
      refine to_gd 1 17 (c := am_inB (v1 + (1 : Int32)) 5 = true) (pc' := 18) (a' := ([(0, am_R 7 i0), (1, am_I v1), (2, am_I v2), (3, am_R 2 i3)], ([am_R 4 (20 + (Int32.toNatClampNeg (v1 + (1 : Int32))))], (x, z)))) rfl rfl (fun c_3 => ?_)
      refine to_go 4 (pc' := 26) (a' := ([(4, am_R 4 (20 + (Int32.toNatClampNeg (v1 + (1 : Int32))))), (0, am_R 7 i0), (1, am_I v1), (2, am_I v2), (3, am_R 2 i3)], ([am_R 16 0, am_R 4 (20 + (Int32.toNatClampNeg (v1 + (1 : Int32))))], (x, z)))) rfl ?_
      refine to_gd 1 27 (c := am_inB v1 5 = true) (pc' := 28) (a' := ([(4, am_R 4 (20 + (Int32.toNatClampNeg (v1 + (1 : Int32))))), (0, am_R 7 i0), (1, am_I v1), (2, am_I v2), (3, am_R 2 i3)], ([am_R 4 (20 + (Int32.toNatClampNeg v1)), am_R 4 (20 + (Int32.toNatClampNeg (v1 + (1 : Int32))))], (x, z)))) rfl rfl (fun c_4 => ?_)
      refine to_cl 1 (lv := [(4, am_R 4 (20 + (Int32.toNatClampNeg (v1 + (1 : Int32))))), (0, am_R 7 i0), (1, am_I v1), (2, am_I v2), (3, am_R 2 i3)]) (st := []) (M := (x, z)) (cb := (cvV0 z)) rfl (fun q hq => t_X6_copy (by omega) hq) (fun q5 => ?_)
      refine to_go 4 (pc' := 36) (a' := ([(4, am_R 4 (20 + (Int32.toNatClampNeg (v1 + (1 : Int32))))), (0, am_R 7 i0), (1, am_I v1), (2, am_I v2), (3, am_R 2 i3)], ([am_R 7 i0, am_R 2 i3, am_I v2, am_R 4 (20 + (Int32.toNatClampNeg (v1 + (1 : Int32))))], (q5, z)))) rfl ?_
      refine to_cl 4 (lv := [(4, am_R 4 (20 + (Int32.toNatClampNeg (v1 + (1 : Int32))))), (0, am_R 7 i0), (1, am_I v1), (2, am_I v2), (3, am_R 2 i3)]) (st := []) (M := (q5, z)) (cb := (cvV0 z)) rfl (fun q hq => t_X6_does (by omega) hq) (fun q6 => ?_)
      refine to_go 4 (pc' := 51) (a' := ([(4, am_R 4 (20 + (Int32.toNatClampNeg (v1 + (1 : Int32))))), (0, am_R 7 i0), (1, am_I v1), (2, am_I v2), (3, am_R 2 i3)], ([am_I v1, am_I (xF q6 7 4 i0), am_R 4 (20 + (Int32.toNatClampNeg (v1 + (1 : Int32))))], (q6, z)))) rfl ?_
      refine to_go 4 (pc' := 55) (a' := ([(4, am_R 4 (20 + (Int32.toNatClampNeg (v1 + (1 : Int32))))), (0, am_R 7 i0), (1, am_I v1), (2, am_I v2), (3, am_R 2 i3)], ([am_R 2 i3, am_I (((xF q6 7 4 i0) + v1) + (1 : Int32)), am_R 4 (20 + (Int32.toNatClampNeg (v1 + (1 : Int32))))], (q6, z)))) rfl ?_
      refine to_cl 1 (lv := [(4, am_R 4 (20 + (Int32.toNatClampNeg (v1 + (1 : Int32))))), (0, am_R 7 i0), (1, am_I v1), (2, am_I v2), (3, am_R 2 i3)]) (st := []) (M := (q6, z)) (cb := (cvV0 z)) rfl (fun q hq => t_X6_enter (by omega) hq) (fun q7 => ?_)
      refine to_go 4 (pc' := 62) (a' := ([(4, am_R 4 (20 + (Int32.toNatClampNeg (v1 + (1 : Int32))))), (0, am_R 7 i0), (1, am_I v1), (2, am_I v2), (3, am_R 2 i3)], ([am_I (v1 + (1 : Int32)), am_R 7 i0], (q7, z)))) rfl ?_
      refine to_cl 2 (lv := [(4, am_R 4 (20 + (Int32.toNatClampNeg (v1 + (1 : Int32))))), (0, am_R 7 i0), (1, am_I v1), (2, am_I v2), (3, am_R 2 i3)]) (st := []) (M := (q7, z)) (cb := (cvV0 z)) rfl (fun q hq => am_Ev_le (by omega) (hrc i0 (v1 + (1 : Int32)) i3 q7 z _ hq)) (fun q8 => ?_)
      exact to_rt 1 rfl
    · exact to_rt 1 rfl
def b_X4_walkFrom_121 (n : Nat) (rc : Nat → Int32 → Nat → am_X → Option (am_X)) (h41 : Nat → Int32 → Nat → Nat → Int32 → Int32 → am_X → Option (am_X)) (i0 : Nat) (v1 : Int32) (i2 : Nat) (i3 : Nat) (v4 : Int32) (v5 : Int32) (x : am_X) : Option (am_X) := h41 i0 v1 i2 i3 v4 (v5 + (1 : Int32)) x
theorem tb_X4_walkFrom_121 {n : Nat} {rc : Nat → Int32 → Nat → am_X → Option (am_X)} {h41 : Nat → Int32 → Nat → Nat → Int32 → Int32 → am_X → Option (am_X)} {d : Nat} {z : am_X} {e : Nat} (hrc : ∀ (a0 : Nat) (a1 : Int32) (a2 : Nat) (x z : am_X) q, rc a0 a1 a2 x = some q → am_Ev am_PR e 30 [am_R 7 a0, am_I a1, am_R 2 a2] (x, z) (cvV0 z q)) (he : e + 1 ≤ d) (hd : 5 ≤ d) (hh41 : ∀ (i0 : Nat) (v1 : Int32) (i2 : Nat) (i3 : Nat) (v4 : Int32) (v5 : Int32) (x : am_X), am_To d (am_tab pX4_walkFrom) 41 ([(0, am_R 7 i0), (1, am_I v1), (2, am_R 2 i2), (3, am_R 4 i3), (4, am_I v4), (5, am_I v5)], ([], (x, z))) (cvV0 z) (h41 i0 v1 i2 i3 v4 v5 x)) (i0 : Nat) (v1 : Int32) (i2 : Nat) (i3 : Nat) (v4 : Int32) (v5 : Int32) (x : am_X) : am_To d (am_tab pX4_walkFrom) 121 ([(0, am_R 7 i0), (1, am_I v1), (2, am_R 2 i2), (3, am_R 4 i3), (4, am_I v4), (5, am_I v5)], ([], (x, z))) (cvV0 z) (b_X4_walkFrom_121 n rc h41 i0 v1 i2 i3 v4 v5 x) := by
  unfold b_X4_walkFrom_121
  refine to_go 2 (pc' := 41) (a' := ([(5, am_I (v5 + (1 : Int32))), (0, am_R 7 i0), (1, am_I v1), (2, am_R 2 i2), (3, am_R 4 i3), (4, am_I v4)], ([], (x, z)))) rfl ?_
  refine to_fg [1, 2, 3, 4, 5, 0] (lv' := [(0, am_R 7 i0), (1, am_I v1), (2, am_R 2 i2), (3, am_R 4 i3), (4, am_I v4), (5, am_I (v5 + (1 : Int32)))]) rfl ?_
  exact hh41 i0 v1 i2 i3 v4 (v5 + (1 : Int32)) x
def b_X4_walkFrom_89 (n : Nat) (rc : Nat → Int32 → Nat → am_X → Option (am_X)) (h41 : Nat → Int32 → Nat → Nat → Int32 → Int32 → am_X → Option (am_X)) (i0 : Nat) (v1 : Int32) (i2 : Nat) (i3 : Nat) (v4 : Int32) (v5 : Int32) (v6 : Int32) (x : am_X) : Option (am_X) := if ¬ v1 = ((xF x 7 3 i0) - (1 : Int32)) then ((f_X4_goOn n rc i0 v1 v6 i2 x).bind fun q2 => b_X4_walkFrom_121 n rc h41 i0 v1 i2 i3 v4 v5 q2) else ((f_X6_owesAfter n i3 v6 i2 x).bind fun q3 => (f_X4_reckon n i0 q3.1 q3.2).bind fun q4 => b_X4_walkFrom_121 n rc h41 i0 v1 i2 i3 v4 v5 q4)
theorem tb_X4_walkFrom_89 {n : Nat} {rc : Nat → Int32 → Nat → am_X → Option (am_X)} {h41 : Nat → Int32 → Nat → Nat → Int32 → Int32 → am_X → Option (am_X)} {d : Nat} {z : am_X} {e : Nat} (hrc : ∀ (a0 : Nat) (a1 : Int32) (a2 : Nat) (x z : am_X) q, rc a0 a1 a2 x = some q → am_Ev am_PR e 30 [am_R 7 a0, am_I a1, am_R 2 a2] (x, z) (cvV0 z q)) (he : e + 1 ≤ d) (hd : 5 ≤ d) (hh41 : ∀ (i0 : Nat) (v1 : Int32) (i2 : Nat) (i3 : Nat) (v4 : Int32) (v5 : Int32) (x : am_X), am_To d (am_tab pX4_walkFrom) 41 ([(0, am_R 7 i0), (1, am_I v1), (2, am_R 2 i2), (3, am_R 4 i3), (4, am_I v4), (5, am_I v5)], ([], (x, z))) (cvV0 z) (h41 i0 v1 i2 i3 v4 v5 x)) (i0 : Nat) (v1 : Int32) (i2 : Nat) (i3 : Nat) (v4 : Int32) (v5 : Int32) (v6 : Int32) (x : am_X) : am_To d (am_tab pX4_walkFrom) 89 ([(0, am_R 7 i0), (1, am_I v1), (2, am_R 2 i2), (3, am_R 4 i3), (4, am_I v4), (5, am_I v5), (6, am_I v6)], ([], (x, z))) (cvV0 z) (b_X4_walkFrom_89 n rc h41 i0 v1 i2 i3 v4 v5 v6 x) := by
  unfold b_X4_walkFrom_89
  refine to_go 4 (pc' := 95) (a' := ([(0, am_R 7 i0), (1, am_I v1), (2, am_R 2 i2), (3, am_R 4 i3), (4, am_I v4), (5, am_I v5), (6, am_I v6)], ([am_I (1 : Int32), am_I (xF x 7 3 i0), am_I v1], (x, z)))) rfl ?_
  refine to_if 2 (c := ¬ v1 = ((xF x 7 3 i0) - (1 : Int32))) (p1 := 113) (p2 := 99) (a' := ([(0, am_R 7 i0), (1, am_I v1), (2, am_R 2 i2), (3, am_R 4 i3), (4, am_I v4), (5, am_I v5), (6, am_I v6)], ([], (x, z)))) rfl (fun c_1 => ?_) (fun c_1 => ?_)
  · refine to_go 4 (pc' := 118) (a' := ([(0, am_R 7 i0), (1, am_I v1), (2, am_R 2 i2), (3, am_R 4 i3), (4, am_I v4), (5, am_I v5), (6, am_I v6)], ([am_R 2 i2, am_I v6, am_I v1, am_R 7 i0], (x, z)))) rfl ?_
    refine to_cl 1 (lv := [(0, am_R 7 i0), (1, am_I v1), (2, am_R 2 i2), (3, am_R 4 i3), (4, am_I v4), (5, am_I v5), (6, am_I v6)]) (st := []) (M := (x, z)) (cb := (cvV0 z)) rfl (fun q hq => t_X4_goOn hrc (by omega) (by omega) hq) (fun q2 => ?_)
    refine to_fg [0, 1, 2, 3, 4, 5] (lv' := [(0, am_R 7 i0), (1, am_I v1), (2, am_R 2 i2), (3, am_R 4 i3), (4, am_I v4), (5, am_I v5)]) rfl ?_
    exact tb_X4_walkFrom_121 hrc (by omega) (by omega) hh41  i0 v1 i2 i3 v4 v5 q2
  · refine to_go 4 (pc' := 104) (a' := ([(0, am_R 7 i0), (1, am_I v1), (2, am_R 2 i2), (3, am_R 4 i3), (4, am_I v4), (5, am_I v5), (6, am_I v6)], ([am_R 2 i2, am_I v6, am_R 4 i3, am_R 7 i0], (x, z)))) rfl ?_
    refine to_cl 1 (lv := [(0, am_R 7 i0), (1, am_I v1), (2, am_R 2 i2), (3, am_R 4 i3), (4, am_I v4), (5, am_I v5), (6, am_I v6)]) (st := [am_R 7 i0]) (M := (x, z)) (cb := (cvI0 z)) rfl (fun q hq => t_X6_owesAfter (by omega) hq) (fun q3 => ?_)
    refine to_cl 1 (lv := [(0, am_R 7 i0), (1, am_I v1), (2, am_R 2 i2), (3, am_R 4 i3), (4, am_I v4), (5, am_I v5), (6, am_I v6)]) (st := []) (M := (q3.2, z)) (cb := (cvV0 z)) rfl (fun q hq => t_X4_reckon (by omega) hq) (fun q4 => ?_)
    refine to_go 1 (pc' := 121) (a' := ([(0, am_R 7 i0), (1, am_I v1), (2, am_R 2 i2), (3, am_R 4 i3), (4, am_I v4), (5, am_I v5), (6, am_I v6)], ([], (q4, z)))) rfl ?_
    refine to_fg [0, 1, 2, 3, 4, 5] (lv' := [(0, am_R 7 i0), (1, am_I v1), (2, am_R 2 i2), (3, am_R 4 i3), (4, am_I v4), (5, am_I v5)]) rfl ?_
    exact tb_X4_walkFrom_121 hrc (by omega) (by omega) hh41  i0 v1 i2 i3 v4 v5 q4
def b_X4_walkFrom_41 (n : Nat) (rc : Nat → Int32 → Nat → am_X → Option (am_X)) : Nat → Nat → Int32 → Nat → Nat → Int32 → Int32 → am_X → Option (am_X)
  | 0, _, _, _, _, _, _, _ => none
  | k + 1, i0, v1, i2, i3, v4, v5, x => if (11 : Int32) < v5 then (some x) else ((f_X8_actAt n v5 x).bind fun q2 => (f_X6_getsBy n i3 q2.1 i2 q2.2).bind fun q3 => if ¬ q3.1 = v4 then (b_X4_walkFrom_121 n rc (b_X4_walkFrom_41 n rc k) i0 v1 i2 i3 v4 v5 q3.2) else (if q2.1 = (9 : Int32) then (b_X4_walkFrom_89 n rc (b_X4_walkFrom_41 n rc k) i0 v1 i2 i3 v4 v5 q2.1 q3.2) else ((f_X6_isFreeTo n i3 q2.1 i2 q3.2).bind fun q6 => if ¬ q6.1 = 0 then (b_X4_walkFrom_89 n rc (b_X4_walkFrom_41 n rc k) i0 v1 i2 i3 v4 v5 q2.1 q6.2) else (b_X4_walkFrom_121 n rc (b_X4_walkFrom_41 n rc k) i0 v1 i2 i3 v4 v5 q6.2))))
theorem tb_X4_walkFrom_41 {n : Nat} {rc : Nat → Int32 → Nat → am_X → Option (am_X)} {d : Nat} {z : am_X} {e : Nat} (hrc : ∀ (a0 : Nat) (a1 : Int32) (a2 : Nat) (x z : am_X) q, rc a0 a1 a2 x = some q → am_Ev am_PR e 30 [am_R 7 a0, am_I a1, am_R 2 a2] (x, z) (cvV0 z q)) (he : e + 1 ≤ d) (hd : 5 ≤ d) : ∀ (k : Nat) (i0 : Nat) (v1 : Int32) (i2 : Nat) (i3 : Nat) (v4 : Int32) (v5 : Int32) (x : am_X), am_To d (am_tab pX4_walkFrom) 41 ([(0, am_R 7 i0), (1, am_I v1), (2, am_R 2 i2), (3, am_R 4 i3), (4, am_I v4), (5, am_I v5)], ([], (x, z))) (cvV0 z) (b_X4_walkFrom_41 n rc k i0 v1 i2 i3 v4 v5 x) := by
  intro k
  induction k with
  | zero =>
    intro i0 v1 i2 i3 v4 v5 x
    exact to_0
  | succ k ih =>
    intro i0 v1 i2 i3 v4 v5 x
    rw [b_X4_walkFrom_41]
    refine to_if 4 (c := (11 : Int32) < v5) (p1 := 127) (p2 := 50) (a' := ([(0, am_R 7 i0), (1, am_I v1), (2, am_R 2 i2), (3, am_R 4 i3), (4, am_I v4), (5, am_I v5)], ([], (x, z)))) rfl (fun c_1 => ?_) (fun c_1 => ?_)
    · exact to_rt 1 rfl
    · refine to_cl 2 (lv := [(0, am_R 7 i0), (1, am_I v1), (2, am_R 2 i2), (3, am_R 4 i3), (4, am_I v4), (5, am_I v5)]) (st := []) (M := (x, z)) (cb := (cvI0 z)) rfl (fun q hq => t_X8_actAt (by omega) hq) (fun q2 => ?_)
      refine to_go 4 (pc' := 61) (a' := ([(6, am_I q2.1), (0, am_R 7 i0), (1, am_I v1), (2, am_R 2 i2), (3, am_R 4 i3), (4, am_I v4), (5, am_I v5)], ([am_R 2 i2, am_I q2.1, am_R 4 i3], (q2.2, z)))) rfl ?_
      refine to_cl 1 (lv := [(6, am_I q2.1), (0, am_R 7 i0), (1, am_I v1), (2, am_R 2 i2), (3, am_R 4 i3), (4, am_I v4), (5, am_I v5)]) (st := []) (M := (q2.2, z)) (cb := (cvI0 z)) rfl (fun q hq => t_X6_getsBy (by omega) hq) (fun q3 => ?_)
      refine to_if 2 (c := ¬ q3.1 = v4) (p1 := 121) (p2 := 69) (a' := ([(6, am_I q2.1), (0, am_R 7 i0), (1, am_I v1), (2, am_R 2 i2), (3, am_R 4 i3), (4, am_I v4), (5, am_I v5)], ([], (q3.2, z)))) rfl (fun c_4 => ?_) (fun c_4 => ?_)
      · refine to_fg [1, 2, 3, 4, 5, 6] (lv' := [(0, am_R 7 i0), (1, am_I v1), (2, am_R 2 i2), (3, am_R 4 i3), (4, am_I v4), (5, am_I v5)]) rfl ?_
        exact tb_X4_walkFrom_121 hrc (by omega) (by omega) ih  i0 v1 i2 i3 v4 v5 q3.2
      · refine to_if 3 (c := q2.1 = (9 : Int32)) (p1 := 89) (p2 := 76) (a' := ([(6, am_I q2.1), (0, am_R 7 i0), (1, am_I v1), (2, am_R 2 i2), (3, am_R 4 i3), (4, am_I v4), (5, am_I v5)], ([], (q3.2, z)))) rfl (fun c_5 => ?_) (fun c_5 => ?_)
        · refine to_fg [1, 2, 3, 4, 5, 6, 0] (lv' := [(0, am_R 7 i0), (1, am_I v1), (2, am_R 2 i2), (3, am_R 4 i3), (4, am_I v4), (5, am_I v5), (6, am_I q2.1)]) rfl ?_
          exact tb_X4_walkFrom_89 hrc (by omega) (by omega) ih  i0 v1 i2 i3 v4 v5 q2.1 q3.2
        · refine to_cl 4 (lv := [(6, am_I q2.1), (0, am_R 7 i0), (1, am_I v1), (2, am_R 2 i2), (3, am_R 4 i3), (4, am_I v4), (5, am_I v5)]) (st := []) (M := (q3.2, z)) (cb := (cvI0 z)) rfl (fun q hq => t_X6_isFreeTo (by omega) hq) (fun q6 => ?_)
          refine to_if 1 (c := ¬ q6.1 = 0) (p1 := 89) (p2 := 86) (a' := ([(6, am_I q2.1), (0, am_R 7 i0), (1, am_I v1), (2, am_R 2 i2), (3, am_R 4 i3), (4, am_I v4), (5, am_I v5)], ([], (q6.2, z)))) rfl (fun c_7 => ?_) (fun c_7 => ?_)
          · refine to_fg [1, 2, 3, 4, 5, 6, 0] (lv' := [(0, am_R 7 i0), (1, am_I v1), (2, am_R 2 i2), (3, am_R 4 i3), (4, am_I v4), (5, am_I v5), (6, am_I q2.1)]) rfl ?_
            exact tb_X4_walkFrom_89 hrc (by omega) (by omega) ih  i0 v1 i2 i3 v4 v5 q2.1 q6.2
          · refine to_go 1 (pc' := 121) (a' := ([(6, am_I q2.1), (0, am_R 7 i0), (1, am_I v1), (2, am_R 2 i2), (3, am_R 4 i3), (4, am_I v4), (5, am_I v5)], ([], (q6.2, z)))) rfl ?_
            refine to_fg [1, 2, 3, 4, 5, 6] (lv' := [(0, am_R 7 i0), (1, am_I v1), (2, am_R 2 i2), (3, am_R 4 i3), (4, am_I v4), (5, am_I v5)]) rfl ?_
            exact tb_X4_walkFrom_121 hrc (by omega) (by omega) ih  i0 v1 i2 i3 v4 v5 q6.2
def g_X4_walkFrom (n : Nat) (rc : Nat → Int32 → Nat → am_X → Option (am_X)) (i0 : Nat) (v1 : Int32) (i2 : Nat) (x : am_X) : Option (am_X) := if v1 < 0 then (some x) else (if (xF x 7 3 i0) ≤ v1 then (some x) else (if v1 < (5 : Int32) then (if am_inB v1 5 = true then (if am_inB v1 5 = true then (b_X4_walkFrom_41 n rc n i0 v1 i2 (20 + (Int32.toNatClampNeg v1)) ((xA x 15 0 (Int32.toNatClampNeg v1)) - (xF x 4 2 (20 + (Int32.toNatClampNeg v1)))) (0 : Int32) x) else none) else none) else (some x)))
theorem tg_X4_walkFrom {n : Nat} {rc : Nat → Int32 → Nat → am_X → Option (am_X)} {d : Nat} {e : Nat} (hrc : ∀ (a0 : Nat) (a1 : Int32) (a2 : Nat) (x z : am_X) q, rc a0 a1 a2 x = some q → am_Ev am_PR e 30 [am_R 7 a0, am_I a1, am_R 2 a2] (x, z) (cvV0 z q)) (he : e + 2 ≤ d) {i0 : Nat} {v1 : Int32} {i2 : Nat} {x z : am_X} {q : am_X} (hd : 6 ≤ d) (h : g_X4_walkFrom n rc i0 v1 i2 x = some q) : am_Ev am_PR d 30 [am_R 7 i0, am_I v1, am_R 2 i2] (x, z) (cvV0 z q) := by
  obtain ⟨d, rfl⟩ : ∃ e, d = e + 1 := ⟨d - 1, by omega⟩
  refine to_ev (P := (am_tab pX4_walkFrom)) rfl (lv := [(0, am_R 7 i0), (1, am_I v1), (2, am_R 2 i2)]) rfl ?_ q h
  unfold g_X4_walkFrom
  refine to_if 2 (c := v1 < 0) (p1 := 17) (p2 := 4) (a' := ([(0, am_R 7 i0), (1, am_I v1), (2, am_R 2 i2)], ([], (x, z)))) rfl (fun c_1 => ?_) (fun c_1 => ?_)
  · exact to_rt 1 rfl
  · refine to_if 4 (c := (xF x 7 3 i0) ≤ v1) (p1 := 17) (p2 := 12) (a' := ([(0, am_R 7 i0), (1, am_I v1), (2, am_R 2 i2)], ([], (x, z)))) rfl (fun c_2 => ?_) (fun c_2 => ?_)
    · exact to_rt 1 rfl
    · refine to_if 3 (c := v1 < (5 : Int32)) (p1 := 18) (p2 := 17) (a' := ([(0, am_R 7 i0), (1, am_I v1), (2, am_R 2 i2)], ([], (x, z)))) rfl (fun c_3 => ?_) (fun c_3 => ?_)
      · refine to_gd 3 23 (c := am_inB v1 5 = true) (pc' := 24) (a' := ([(0, am_R 7 i0), (1, am_I v1), (2, am_R 2 i2)], ([am_R 4 (20 + (Int32.toNatClampNeg v1))], (x, z)))) rfl rfl (fun c_4 => ?_)
        refine to_go 4 (pc' := 30) (a' := ([(3, am_R 4 (20 + (Int32.toNatClampNeg v1))), (0, am_R 7 i0), (1, am_I v1), (2, am_R 2 i2)], ([am_I v1, am_R 15 0], (x, z)))) rfl ?_
        refine to_gd 0 30 (c := am_inB v1 5 = true) (pc' := 31) (a' := ([(3, am_R 4 (20 + (Int32.toNatClampNeg v1))), (0, am_R 7 i0), (1, am_I v1), (2, am_R 2 i2)], ([am_I (xA x 15 0 (Int32.toNatClampNeg v1))], (x, z)))) rfl rfl (fun c_5 => ?_)
        refine to_go 4 (pc' := 38) (a' := ([(4, am_I ((xA x 15 0 (Int32.toNatClampNeg v1)) - (xF x 4 2 (20 + (Int32.toNatClampNeg v1))))), (3, am_R 4 (20 + (Int32.toNatClampNeg v1))), (0, am_R 7 i0), (1, am_I v1), (2, am_R 2 i2)], ([], (x, z)))) rfl ?_
        refine to_go 2 (pc' := 41) (a' := ([(5, am_I (0 : Int32)), (4, am_I ((xA x 15 0 (Int32.toNatClampNeg v1)) - (xF x 4 2 (20 + (Int32.toNatClampNeg v1))))), (3, am_R 4 (20 + (Int32.toNatClampNeg v1))), (0, am_R 7 i0), (1, am_I v1), (2, am_R 2 i2)], ([], (x, z)))) rfl ?_
        refine to_fg [3, 4, 5, 2, 1, 0] (lv' := [(0, am_R 7 i0), (1, am_I v1), (2, am_R 2 i2), (3, am_R 4 (20 + (Int32.toNatClampNeg v1))), (4, am_I ((xA x 15 0 (Int32.toNatClampNeg v1)) - (xF x 4 2 (20 + (Int32.toNatClampNeg v1))))), (5, am_I (0 : Int32))]) rfl ?_
        exact tb_X4_walkFrom_41 hrc (by omega) (by omega)  n i0 v1 i2 (20 + (Int32.toNatClampNeg v1)) ((xA x 15 0 (Int32.toNatClampNeg v1)) - (xF x 4 2 (20 + (Int32.toNatClampNeg v1)))) (0 : Int32) x
      · exact to_rt 1 rfl
def f_X4_walkFrom (n : Nat) : Nat → Nat → Int32 → Nat → am_X → Option (am_X)
  | 0, _, _, _, _ => none
  | m + 1, i0, v1, i2, x => g_X4_walkFrom n (f_X4_walkFrom n m) i0 v1 i2 x
theorem t_X4_walkFrom {n : Nat} : ∀ (m : Nat) {d : Nat} {i0 : Nat} {v1 : Int32} {i2 : Nat} {x z : am_X} {q : am_X} (hd : 6 + 2 * m ≤ d) (h : f_X4_walkFrom n m i0 v1 i2 x = some q), am_Ev am_PR d 30 [am_R 7 i0, am_I v1, am_R 2 i2] (x, z) (cvV0 z q) := by
  intro m
  induction m with
  | zero =>
    intro d i0 v1 i2 x z q hd h
    cases h
  | succ m ih =>
    intro d i0 v1 i2 x z q hd h
    exact tg_X4_walkFrom (e := 6 + 2 * m) (fun i0 v1 i2 x z q hq => ih (Nat.le_refl _) hq) (by omega) (by omega) h
def f_X4_walk (n : Nat) (i0 : Nat) (i1 : Nat) (x : am_X) : Option (am_X) := if ¬ (xF x 7 3 i0) = 0 then ((f_X4_walkFrom n 8 i0 (0 : Int32) i1 (sF (sF x 7 5 i0 (0 : Int32)) 7 6 i0 (-1 : Int32))).bind fun q2 => some q2) else ((f_X4_reckon n i0 (xF x 4 3 20) (sF (sF x 7 5 i0 (0 : Int32)) 7 6 i0 (-1 : Int32))).bind fun q3 => some q3)
theorem t_X4_walk {n : Nat} {d : Nat} {i0 : Nat} {i1 : Nat} {x z : am_X} {q : am_X} (hd : 23 ≤ d) (h : f_X4_walk n i0 i1 x = some q) : am_Ev am_PR d 28 [am_R 7 i0, am_R 2 i1] (x, z) (cvV0 z q) := by
  obtain ⟨d, rfl⟩ : ∃ e, d = e + 1 := ⟨d - 1, by omega⟩
  refine to_ev (P := (am_tab pX4_walk)) rfl (lv := [(0, am_R 7 i0), (1, am_R 2 i1)]) rfl ?_ q h
  unfold f_X4_walk
  refine to_go 4 (pc' := 6) (a' := ([(0, am_R 7 i0), (1, am_R 2 i1)], ([am_R 7 i0], ((sF x 7 5 i0 (0 : Int32)), z)))) rfl ?_
  refine to_go 4 (pc' := 14) (a' := ([(0, am_R 7 i0), (1, am_R 2 i1)], ([am_I (xF x 7 3 i0)], ((sF (sF x 7 5 i0 (0 : Int32)) 7 6 i0 (-1 : Int32)), z)))) rfl ?_
  refine to_if 1 (c := ¬ (xF x 7 3 i0) = 0) (p1 := 33) (p2 := 17) (a' := ([(0, am_R 7 i0), (1, am_R 2 i1)], ([], ((sF (sF x 7 5 i0 (0 : Int32)) 7 6 i0 (-1 : Int32)), z)))) rfl (fun c_1 => ?_) (fun c_1 => ?_)
  · refine to_cl 4 (lv := [(0, am_R 7 i0), (1, am_R 2 i1)]) (st := []) (M := ((sF (sF x 7 5 i0 (0 : Int32)) 7 6 i0 (-1 : Int32)), z)) (cb := (cvV0 z)) rfl (fun q hq => t_X4_walkFrom 8 (by omega) hq) (fun q2 => ?_)
    exact to_rt 1 rfl
  · refine to_go 4 (pc' := 23) (a' := ([(0, am_R 7 i0), (1, am_R 2 i1)], ([am_I (0 : Int32), am_R 16 0, am_R 7 i0], ((sF (sF x 7 5 i0 (0 : Int32)) 7 6 i0 (-1 : Int32)), z)))) rfl ?_
    refine to_gk 0 23 (c := am_inB (0 : Int32) 5 = true) (pc' := 24) (a' := ([(0, am_R 7 i0), (1, am_R 2 i1)], ([am_R 4 20, am_R 7 i0], ((sF (sF x 7 5 i0 (0 : Int32)) 7 6 i0 (-1 : Int32)), z)))) rfl rfl (by decide) ?_
    refine to_cl 2 (lv := [(0, am_R 7 i0), (1, am_R 2 i1)]) (st := []) (M := ((sF (sF x 7 5 i0 (0 : Int32)) 7 6 i0 (-1 : Int32)), z)) (cb := (cvV0 z)) rfl (fun q hq => t_X4_reckon (by omega) hq) (fun q3 => ?_)
    exact to_rt 2 rfl
def f_X5_hasRoom (n : Nat) (i0 : Nat) (x : am_X) : Option (Int32 × am_X) := if (30 : Int32) ≤ (xF x 1 2 i0) then (some ((0 : Int32), x)) else (some ((1 : Int32), x))
theorem t_X5_hasRoom {n : Nat} {d : Nat} {i0 : Nat} {x z : am_X} {q : Int32 × am_X} (hd : 1 ≤ d) (h : f_X5_hasRoom n i0 x = some q) : am_Ev am_PR d 32 [am_R 1 i0] (x, z) (cvI0 z q) := by
  obtain ⟨d, rfl⟩ : ∃ e, d = e + 1 := ⟨d - 1, by omega⟩
  refine to_ev (P := (am_tab pX5_hasRoom)) rfl (lv := [(0, am_R 1 i0)]) rfl ?_ q h
  unfold f_X5_hasRoom
  refine to_go 4 (pc' := 8) (a' := ([(0, am_R 1 i0)], ([am_R 8 0, am_I (xF x 1 2 i0)], (x, z)))) rfl ?_
  refine to_if 2 (c := (30 : Int32) ≤ (xF x 1 2 i0)) (p1 := 16) (p2 := 12) (a' := ([(0, am_R 1 i0)], ([], (x, z)))) rfl (fun c_1 => ?_) (fun c_1 => ?_)
  · exact to_rk 1 17 (c := am_bz (0 : Int32) = true) (r := ((0 : Int32), x)) rfl rfl (by decide)
  · exact to_rk 2 17 (c := am_bz (1 : Int32) = true) (r := ((1 : Int32), x)) rfl rfl (by decide)
def f_X5_write (n : Nat) (i0 : Nat) (v1 : Int32) (x : am_X) : Option (am_X) := if (xF x 1 2 i0) < 0 then (some x) else (if (30 : Int32) ≤ (xF x 1 2 i0) then (some x) else (if am_inB (xF x 1 2 i0) 30 = true then (some (sF (sA x 8 0 (Int32.toNatClampNeg (xF x 1 2 i0)) v1) 1 2 i0 ((xF x 1 2 i0) + (1 : Int32)))) else none))
theorem t_X5_write {n : Nat} {d : Nat} {i0 : Nat} {v1 : Int32} {x z : am_X} {q : am_X} (hd : 1 ≤ d) (h : f_X5_write n i0 v1 x = some q) : am_Ev am_PR d 33 [am_R 1 i0, am_I v1] (x, z) (cvV0 z q) := by
  obtain ⟨d, rfl⟩ : ∃ e, d = e + 1 := ⟨d - 1, by omega⟩
  refine to_ev (P := (am_tab pX5_write)) rfl (lv := [(0, am_R 1 i0), (1, am_I v1)]) rfl ?_ q h
  unfold f_X5_write
  refine to_if 3 (c := (xF x 1 2 i0) < 0) (p1 := 39) (p2 := 7) (a' := ([(0, am_R 1 i0), (1, am_I v1)], ([], (x, z)))) rfl (fun c_1 => ?_) (fun c_1 => ?_)
  · exact to_rt 1 rfl
  · refine to_go 4 (pc' := 15) (a' := ([(0, am_R 1 i0), (1, am_I v1)], ([am_R 8 0, am_I (xF x 1 2 i0)], (x, z)))) rfl ?_
    refine to_if 2 (c := (30 : Int32) ≤ (xF x 1 2 i0)) (p1 := 39) (p2 := 19) (a' := ([(0, am_R 1 i0), (1, am_I v1)], ([], (x, z)))) rfl (fun c_2 => ?_) (fun c_2 => ?_)
    · exact to_rt 1 rfl
    · refine to_go 4 (pc' := 27) (a' := ([(0, am_R 1 i0), (1, am_I v1)], ([am_I (xF x 1 2 i0), am_R 8 0], (x, z)))) rfl ?_
      refine to_gd 1 28 (c := am_inB (xF x 1 2 i0) 30 = true) (pc' := 29) (a' := ([(0, am_R 1 i0), (1, am_I v1)], ([], ((sA x 8 0 (Int32.toNatClampNeg (xF x 1 2 i0)) v1), z)))) rfl rfl (fun c_3 => ?_)
      refine to_go 4 (pc' := 35) (a' := ([(0, am_R 1 i0), (1, am_I v1)], ([am_I (1 : Int32), am_I (xF x 1 2 i0), am_R 1 i0], ((sA x 8 0 (Int32.toNatClampNeg (xF x 1 2 i0)) v1), z)))) rfl ?_
      exact to_rt 3 rfl
def f_X5_at (n : Nat) (i0 : Nat) (v1 : Int32) (x : am_X) : Option (Int32 × am_X) := if v1 < 0 then (some ((0 : Int32), x)) else (if (30 : Int32) ≤ v1 then (some ((0 : Int32), x)) else (if am_inB v1 30 = true then (some ((xA x 8 0 (Int32.toNatClampNeg v1)), x)) else none))
theorem t_X5_at {n : Nat} {d : Nat} {i0 : Nat} {v1 : Int32} {x z : am_X} {q : Int32 × am_X} (hd : 1 ≤ d) (h : f_X5_at n i0 v1 x = some q) : am_Ev am_PR d 34 [am_R 1 i0, am_I v1] (x, z) (cvI0 z q) := by
  obtain ⟨d, rfl⟩ : ∃ e, d = e + 1 := ⟨d - 1, by omega⟩
  refine to_ev (P := (am_tab pX5_at)) rfl (lv := [(0, am_R 1 i0), (1, am_I v1)]) rfl ?_ q h
  unfold f_X5_at
  refine to_if 2 (c := v1 < 0) (p1 := 22) (p2 := 4) (a' := ([(0, am_R 1 i0), (1, am_I v1)], ([], (x, z)))) rfl (fun c_1 => ?_) (fun c_1 => ?_)
  · exact to_rt 2 (r := ((0 : Int32), x)) rfl
  · refine to_go 4 (pc' := 10) (a' := ([(0, am_R 1 i0), (1, am_I v1)], ([am_I (30 : Int32), am_I v1], (x, z)))) rfl ?_
    refine to_if 1 (c := (30 : Int32) ≤ v1) (p1 := 22) (p2 := 13) (a' := ([(0, am_R 1 i0), (1, am_I v1)], ([], (x, z)))) rfl (fun c_2 => ?_) (fun c_2 => ?_)
    · exact to_rt 2 (r := ((0 : Int32), x)) rfl
    · refine to_gd 3 18 (c := am_inB v1 30 = true) (pc' := 19) (a' := ([(0, am_R 1 i0), (1, am_I v1)], ([am_I (xA x 8 0 (Int32.toNatClampNeg v1))], (x, z)))) rfl rfl (fun c_3 => ?_)
      exact to_rt 2 (r := ((xA x 8 0 (Int32.toNatClampNeg v1)), x)) rfl
def f_X5_takesLapse (n : Nat) (i0 : Nat) (v1 : Int32) (x : am_X) : Option (Int32 × am_X) := if v1 < (1 : Int32) then (some ((0 : Int32), x)) else (if v1 ≤ (9 : Int32) then (some ((1 : Int32), (sF (sF x 2 3 1 v1) 1 3 i0 (6 : Int32)))) else (some ((0 : Int32), x)))
theorem t_X5_takesLapse {n : Nat} {d : Nat} {i0 : Nat} {v1 : Int32} {x z : am_X} {q : Int32 × am_X} (hd : 1 ≤ d) (h : f_X5_takesLapse n i0 v1 x = some q) : am_Ev am_PR d 43 [am_R 1 i0, am_I v1] (x, z) (cvI0 z q) := by
  obtain ⟨d, rfl⟩ : ∃ e, d = e + 1 := ⟨d - 1, by omega⟩
  refine to_ev (P := (am_tab pX5_takesLapse)) rfl (lv := [(0, am_R 1 i0), (1, am_I v1)]) rfl ?_ q h
  unfold f_X5_takesLapse
  refine to_if 3 (c := v1 < (1 : Int32)) (p1 := 11) (p2 := 5) (a' := ([(0, am_R 1 i0), (1, am_I v1)], ([], (x, z)))) rfl (fun c_1 => ?_) (fun c_1 => ?_)
  · exact to_rk 1 12 (c := am_bz (0 : Int32) = true) (r := ((0 : Int32), x)) rfl rfl (by decide)
  · refine to_if 3 (c := v1 ≤ (9 : Int32)) (p1 := 13) (p2 := 11) (a' := ([(0, am_R 1 i0), (1, am_I v1)], ([], (x, z)))) rfl (fun c_2 => ?_) (fun c_2 => ?_)
    · refine to_go 4 (pc' := 21) (a' := ([(0, am_R 1 i0), (1, am_I v1)], ([], ((sF x 2 3 1 v1), z)))) rfl ?_
      refine to_go 4 (pc' := 28) (a' := ([(0, am_R 1 i0), (1, am_I v1)], ([am_I (1 : Int32)], ((sF (sF x 2 3 1 v1) 1 3 i0 (6 : Int32)), z)))) rfl ?_
      exact to_rk 0 28 (c := am_bz (1 : Int32) = true) (r := ((1 : Int32), (sF (sF x 2 3 1 v1) 1 3 i0 (6 : Int32)))) rfl rfl (by decide)
    · exact to_rk 1 12 (c := am_bz (0 : Int32) = true) (r := ((0 : Int32), x)) rfl rfl (by decide)
def f_X5_takesSort (n : Nat) (i0 : Nat) (v1 : Int32) (x : am_X) : Option (Int32 × am_X) := if v1 < 0 then (some ((0 : Int32), x)) else (if (3 : Int32) ≤ v1 then (some ((0 : Int32), x)) else ((f_X8_isDeed n (xF x 1 4 i0) x).bind fun q3 => if q3.1 = 0 then (some ((0 : Int32), q3.2)) else (if am_inB (xF q3.2 1 4 i0) 4 = true then (if ((xA q3.2 11 1 (Int32.toNatClampNeg (xF q3.2 1 4 i0))) &&& ((1 : Int32) <<< (v1 &&& 31))) = 0 then (if am_inB (xF q3.2 1 4 i0) 4 = true then (if am_inB (xF q3.2 1 4 i0) 4 = true then (some ((1 : Int32), (sF (sA q3.2 11 1 (Int32.toNatClampNeg (xF q3.2 1 4 i0)) ((xA q3.2 11 1 (Int32.toNatClampNeg (xF q3.2 1 4 i0))) ||| ((1 : Int32) <<< (v1 &&& 31)))) 1 3 i0 (4 : Int32)))) else none) else none) else (some ((0 : Int32), q3.2))) else none)))
theorem t_X5_takesSort {n : Nat} {d : Nat} {i0 : Nat} {v1 : Int32} {x z : am_X} {q : Int32 × am_X} (hd : 2 ≤ d) (h : f_X5_takesSort n i0 v1 x = some q) : am_Ev am_PR d 41 [am_R 1 i0, am_I v1] (x, z) (cvI0 z q) := by
  obtain ⟨d, rfl⟩ : ∃ e, d = e + 1 := ⟨d - 1, by omega⟩
  refine to_ev (P := (am_tab pX5_takesSort)) rfl (lv := [(0, am_R 1 i0), (1, am_I v1)]) rfl ?_ q h
  unfold f_X5_takesSort
  refine to_if 2 (c := v1 < 0) (p1 := 38) (p2 := 4) (a' := ([(0, am_R 1 i0), (1, am_I v1)], ([], (x, z)))) rfl (fun c_1 => ?_) (fun c_1 => ?_)
  · exact to_rk 1 39 (c := am_bz (0 : Int32) = true) (r := ((0 : Int32), x)) rfl rfl (by decide)
  · refine to_if 3 (c := (3 : Int32) ≤ v1) (p1 := 38) (p2 := 9) (a' := ([(0, am_R 1 i0), (1, am_I v1)], ([], (x, z)))) rfl (fun c_2 => ?_) (fun c_2 => ?_)
    · exact to_rk 1 39 (c := am_bz (0 : Int32) = true) (r := ((0 : Int32), x)) rfl rfl (by decide)
    · refine to_cl 3 (lv := [(0, am_R 1 i0), (1, am_I v1)]) (st := []) (M := (x, z)) (cb := (cvI0 z)) rfl (fun q hq => t_X8_isDeed (by omega) hq) (fun q3 => ?_)
      refine to_if 1 (c := q3.1 = 0) (p1 := 38) (p2 := 19) (a' := ([(0, am_R 1 i0), (1, am_I v1)], ([], (q3.2, z)))) rfl (fun c_4 => ?_) (fun c_4 => ?_)
      · exact to_rk 1 39 (c := am_bz (0 : Int32) = true) (r := ((0 : Int32), q3.2)) rfl rfl (by decide)
      · refine to_go 4 (pc' := 27) (a' := ([(0, am_R 1 i0), (1, am_I v1)], ([am_R 1 i0, am_R 11 1], (q3.2, z)))) rfl ?_
        refine to_gd 1 30 (c := am_inB (xF q3.2 1 4 i0) 4 = true) (pc' := 31) (a' := ([(0, am_R 1 i0), (1, am_I v1)], ([am_I (xA q3.2 11 1 (Int32.toNatClampNeg (xF q3.2 1 4 i0)))], (q3.2, z)))) rfl rfl (fun c_5 => ?_)
        refine to_go 4 (pc' := 35) (a' := ([(0, am_R 1 i0), (1, am_I v1)], ([am_I ((xA q3.2 11 1 (Int32.toNatClampNeg (xF q3.2 1 4 i0))) &&& ((1 : Int32) <<< (v1 &&& 31)))], (q3.2, z)))) rfl ?_
        refine to_if 1 (c := ((xA q3.2 11 1 (Int32.toNatClampNeg (xF q3.2 1 4 i0))) &&& ((1 : Int32) <<< (v1 &&& 31))) = 0) (p1 := 40) (p2 := 38) (a' := ([(0, am_R 1 i0), (1, am_I v1)], ([], (q3.2, z)))) rfl (fun c_6 => ?_) (fun c_6 => ?_)
        · refine to_go 4 (pc' := 48) (a' := ([(0, am_R 1 i0), (1, am_I v1)], ([am_R 1 i0, am_R 11 1], (q3.2, z)))) rfl ?_
          refine to_gd 2 52 (c := am_inB (xF q3.2 1 4 i0) 4 = true) (pc' := 53) (a' := ([(0, am_R 1 i0), (1, am_I v1)], ([am_I (xA q3.2 11 1 (Int32.toNatClampNeg (xF q3.2 1 4 i0))), am_I (xF q3.2 1 4 i0), am_R 11 1], (q3.2, z)))) rfl rfl (fun c_7 => ?_)
          refine to_go 4 (pc' := 57) (a' := ([(0, am_R 1 i0), (1, am_I v1)], ([am_I ((xA q3.2 11 1 (Int32.toNatClampNeg (xF q3.2 1 4 i0))) ||| ((1 : Int32) <<< (v1 &&& 31))), am_I (xF q3.2 1 4 i0), am_R 11 1], (q3.2, z)))) rfl ?_
          refine to_gd 0 57 (c := am_inB (xF q3.2 1 4 i0) 4 = true) (pc' := 58) (a' := ([(0, am_R 1 i0), (1, am_I v1)], ([], ((sA q3.2 11 1 (Int32.toNatClampNeg (xF q3.2 1 4 i0)) ((xA q3.2 11 1 (Int32.toNatClampNeg (xF q3.2 1 4 i0))) ||| ((1 : Int32) <<< (v1 &&& 31)))), z)))) rfl rfl (fun c_8 => ?_)
          refine to_go 4 (pc' := 64) (a' := ([(0, am_R 1 i0), (1, am_I v1)], ([am_I (1 : Int32)], ((sF (sA q3.2 11 1 (Int32.toNatClampNeg (xF q3.2 1 4 i0)) ((xA q3.2 11 1 (Int32.toNatClampNeg (xF q3.2 1 4 i0))) ||| ((1 : Int32) <<< (v1 &&& 31)))) 1 3 i0 (4 : Int32)), z)))) rfl ?_
          exact to_rk 0 64 (c := am_bz (1 : Int32) = true) (r := ((1 : Int32), (sF (sA q3.2 11 1 (Int32.toNatClampNeg (xF q3.2 1 4 i0)) ((xA q3.2 11 1 (Int32.toNatClampNeg (xF q3.2 1 4 i0))) ||| ((1 : Int32) <<< (v1 &&& 31)))) 1 3 i0 (4 : Int32)))) rfl rfl (by decide)
        · exact to_rk 1 39 (c := am_bz (0 : Int32) = true) (r := ((0 : Int32), q3.2)) rfl rfl (by decide)
def b_X5_takesEndOfDeed_41 (n : Nat) (i0 : Nat) (v2 : Int32) (s0 : Nat) (s1 : Int32) (x : am_X) : Option (Int32 × am_X) := if v2 = 0 then (some ((1 : Int32), (sF (sF x 1 3 s0 s1) 1 4 i0 ((xF x 1 4 i0) + (1 : Int32))))) else (some ((1 : Int32), (sF (sF x 1 3 s0 s1) 1 4 i0 (xF x 1 4 i0))))
theorem tb_X5_takesEndOfDeed_41 {n : Nat} {d : Nat} {z : am_X} (hd : 0 ≤ d) (i0 : Nat) (v2 : Int32) (s0 : Nat) (s1 : Int32) (x : am_X) : am_To d (am_tab pX5_takesEndOfDeed) 41 ([(0, am_R 1 i0), (2, am_I v2)], ([am_I s1, am_R 1 s0], (x, z))) (cvI0 z) (b_X5_takesEndOfDeed_41 n i0 v2 s0 s1 x) := by
  unfold b_X5_takesEndOfDeed_41
  refine to_if 4 (c := v2 = 0) (p1 := 56) (p2 := 49) (a' := ([(0, am_R 1 i0), (2, am_I v2)], ([am_R 1 i0], ((sF x 1 3 s0 s1), z)))) rfl (fun c_1 => ?_) (fun c_1 => ?_)
  · refine to_go 4 (pc' := 62) (a' := ([(0, am_R 1 i0), (2, am_I v2)], ([am_I ((xF x 1 4 i0) + (1 : Int32)), am_R 1 i0], ((sF x 1 3 s0 s1), z)))) rfl ?_
    exact to_rk 2 66 (c := am_bz (1 : Int32) = true) (r := ((1 : Int32), (sF (sF x 1 3 s0 s1) 1 4 i0 ((xF x 1 4 i0) + (1 : Int32))))) rfl rfl (by decide)
  · refine to_go 4 (pc' := 65) (a' := ([(0, am_R 1 i0), (2, am_I v2)], ([], ((sF (sF x 1 3 s0 s1) 1 4 i0 (xF x 1 4 i0)), z)))) rfl ?_
    exact to_rk 1 66 (c := am_bz (1 : Int32) = true) (r := ((1 : Int32), (sF (sF x 1 3 s0 s1) 1 4 i0 (xF x 1 4 i0)))) rfl rfl (by decide)
def b_X5_takesEndOfDeed_26 (n : Nat) (i0 : Nat) (v2 : Int32) (s0 : Int32) (s1 : Int32) (x : am_X) : Option (Int32 × am_X) := if s0 = s1 then (if v2 = 0 then (b_X5_takesEndOfDeed_41 n i0 v2 i0 (0 : Int32) x) else (b_X5_takesEndOfDeed_41 n i0 v2 i0 (5 : Int32) x)) else (some ((0 : Int32), x))
theorem tb_X5_takesEndOfDeed_26 {n : Nat} {d : Nat} {z : am_X} (hd : 0 ≤ d) (i0 : Nat) (v2 : Int32) (s0 : Int32) (s1 : Int32) (x : am_X) : am_To d (am_tab pX5_takesEndOfDeed) 26 ([(0, am_R 1 i0), (2, am_I v2)], ([am_I s1, am_I s0], (x, z))) (cvI0 z) (b_X5_takesEndOfDeed_26 n i0 v2 s0 s1 x) := by
  unfold b_X5_takesEndOfDeed_26
  refine to_if 1 (c := s0 = s1) (p1 := 31) (p2 := 29) (a' := ([(0, am_R 1 i0), (2, am_I v2)], ([], (x, z)))) rfl (fun c_1 => ?_) (fun c_1 => ?_)
  · refine to_if 3 (c := v2 = 0) (p1 := 40) (p2 := 36) (a' := ([(0, am_R 1 i0), (2, am_I v2)], ([am_R 1 i0], (x, z)))) rfl (fun c_2 => ?_) (fun c_2 => ?_)
    · refine to_go 1 (pc' := 41) (a' := ([(0, am_R 1 i0), (2, am_I v2)], ([am_I (0 : Int32), am_R 1 i0], (x, z)))) rfl ?_
      refine to_fg [0, 1] (lv' := [(0, am_R 1 i0), (2, am_I v2)]) rfl ?_
      exact tb_X5_takesEndOfDeed_41 (by omega)  i0 v2 i0 (0 : Int32) x
    · refine to_go 2 (pc' := 41) (a' := ([(0, am_R 1 i0), (2, am_I v2)], ([am_I (5 : Int32), am_R 1 i0], (x, z)))) rfl ?_
      refine to_fg [0, 1] (lv' := [(0, am_R 1 i0), (2, am_I v2)]) rfl ?_
      exact tb_X5_takesEndOfDeed_41 (by omega)  i0 v2 i0 (5 : Int32) x
  · exact to_rk 1 30 (c := am_bz (0 : Int32) = true) (r := ((0 : Int32), x)) rfl rfl (by decide)
def b_X5_takesEndOfDeed_13 (n : Nat) (i0 : Nat) (v1 : Int32) (s0 : Int32) (x : am_X) : Option (Int32 × am_X) := if s0 = 0 then (b_X5_takesEndOfDeed_26 n i0 s0 v1 (47 : Int32) x) else (b_X5_takesEndOfDeed_26 n i0 s0 v1 (59 : Int32) x)
theorem tb_X5_takesEndOfDeed_13 {n : Nat} {d : Nat} {z : am_X} (hd : 0 ≤ d) (i0 : Nat) (v1 : Int32) (s0 : Int32) (x : am_X) : am_To d (am_tab pX5_takesEndOfDeed) 13 ([(0, am_R 1 i0), (1, am_I v1)], ([am_I s0], (x, z))) (cvI0 z) (b_X5_takesEndOfDeed_13 n i0 v1 s0 x) := by
  unfold b_X5_takesEndOfDeed_13
  refine to_if 4 (c := s0 = 0) (p1 := 24) (p2 := 19) (a' := ([(2, am_I s0), (0, am_R 1 i0), (1, am_I v1)], ([am_I v1], (x, z)))) rfl (fun c_1 => ?_) (fun c_1 => ?_)
  · refine to_go 1 (pc' := 26) (a' := ([(2, am_I s0), (0, am_R 1 i0), (1, am_I v1)], ([am_I (47 : Int32), am_I v1], (x, z)))) rfl ?_
    refine to_fg [1, 0] (lv' := [(0, am_R 1 i0), (2, am_I s0)]) rfl ?_
    exact tb_X5_takesEndOfDeed_26 (by omega)  i0 s0 v1 (47 : Int32) x
  · refine to_go 2 (pc' := 26) (a' := ([(2, am_I s0), (0, am_R 1 i0), (1, am_I v1)], ([am_I (59 : Int32), am_I v1], (x, z)))) rfl ?_
    refine to_fg [1, 0] (lv' := [(0, am_R 1 i0), (2, am_I s0)]) rfl ?_
    exact tb_X5_takesEndOfDeed_26 (by omega)  i0 s0 v1 (59 : Int32) x
def f_X5_takesEndOfDeed (n : Nat) (i0 : Nat) (v1 : Int32) (x : am_X) : Option (Int32 × am_X) := if ¬ (xF x 1 4 i0) = (3 : Int32) then (b_X5_takesEndOfDeed_13 n i0 v1 (0 : Int32) x) else (b_X5_takesEndOfDeed_13 n i0 v1 (1 : Int32) x)
theorem t_X5_takesEndOfDeed {n : Nat} {d : Nat} {i0 : Nat} {v1 : Int32} {x z : am_X} {q : Int32 × am_X} (hd : 1 ≤ d) (h : f_X5_takesEndOfDeed n i0 v1 x = some q) : am_Ev am_PR d 42 [am_R 1 i0, am_I v1] (x, z) (cvI0 z q) := by
  obtain ⟨d, rfl⟩ : ∃ e, d = e + 1 := ⟨d - 1, by omega⟩
  refine to_ev (P := (am_tab pX5_takesEndOfDeed)) rfl (lv := [(0, am_R 1 i0), (1, am_I v1)]) rfl ?_ q h
  unfold f_X5_takesEndOfDeed
  refine to_if 4 (c := ¬ (xF x 1 4 i0) = (3 : Int32)) (p1 := 12) (p2 := 8) (a' := ([(0, am_R 1 i0), (1, am_I v1)], ([], (x, z)))) rfl (fun c_1 => ?_) (fun c_1 => ?_)
  · refine to_go 1 (pc' := 13) (a' := ([(0, am_R 1 i0), (1, am_I v1)], ([am_I (0 : Int32)], (x, z)))) rfl ?_
    refine to_fg [0, 1] (lv' := [(0, am_R 1 i0), (1, am_I v1)]) rfl ?_
    exact tb_X5_takesEndOfDeed_13 (by omega)  i0 v1 (0 : Int32) x
  · refine to_go 2 (pc' := 13) (a' := ([(0, am_R 1 i0), (1, am_I v1)], ([am_I (1 : Int32)], (x, z)))) rfl ?_
    refine to_fg [0, 1] (lv' := [(0, am_R 1 i0), (1, am_I v1)]) rfl ?_
    exact tb_X5_takesEndOfDeed_13 (by omega)  i0 v1 (1 : Int32) x
def f_X5_takesColon (n : Nat) (i0 : Nat) (v1 : Int32) (x : am_X) : Option (Int32 × am_X) := if v1 = (58 : Int32) then (some ((1 : Int32), (sF x 1 3 i0 (3 : Int32)))) else (some ((0 : Int32), x))
theorem t_X5_takesColon {n : Nat} {d : Nat} {i0 : Nat} {v1 : Int32} {x z : am_X} {q : Int32 × am_X} (hd : 1 ≤ d) (h : f_X5_takesColon n i0 v1 x = some q) : am_Ev am_PR d 40 [am_R 1 i0, am_I v1] (x, z) (cvI0 z q) := by
  obtain ⟨d, rfl⟩ : ∃ e, d = e + 1 := ⟨d - 1, by omega⟩
  refine to_ev (P := (am_tab pX5_takesColon)) rfl (lv := [(0, am_R 1 i0), (1, am_I v1)]) rfl ?_ q h
  unfold f_X5_takesColon
  refine to_if 3 (c := v1 = (58 : Int32)) (p1 := 8) (p2 := 6) (a' := ([(0, am_R 1 i0), (1, am_I v1)], ([], (x, z)))) rfl (fun c_1 => ?_) (fun c_1 => ?_)
  · refine to_go 4 (pc' := 14) (a' := ([(0, am_R 1 i0), (1, am_I v1)], ([am_I (1 : Int32)], ((sF x 1 3 i0 (3 : Int32)), z)))) rfl ?_
    exact to_rk 0 14 (c := am_bz (1 : Int32) = true) (r := ((1 : Int32), (sF x 1 3 i0 (3 : Int32)))) rfl rfl (by decide)
  · exact to_rk 1 7 (c := am_bz (0 : Int32) = true) (r := ((0 : Int32), x)) rfl rfl (by decide)
def f_X5_takesWorth (n : Nat) (i0 : Nat) (v1 : Int32) (x : am_X) : Option (Int32 × am_X) := if v1 < 0 then (some ((0 : Int32), x)) else (if (9 : Int32) < v1 then (some ((0 : Int32), x)) else ((f_X8_isDeed n (xF x 1 4 i0) x).bind fun q3 => if ¬ q3.1 = 0 then (if am_inB (xF q3.2 1 4 i0) 4 = true then (some ((1 : Int32), (sF (sA q3.2 10 1 (Int32.toNatClampNeg (xF q3.2 1 4 i0)) v1) 1 3 i0 (2 : Int32)))) else none) else (some ((0 : Int32), q3.2))))
theorem t_X5_takesWorth {n : Nat} {d : Nat} {i0 : Nat} {v1 : Int32} {x z : am_X} {q : Int32 × am_X} (hd : 2 ≤ d) (h : f_X5_takesWorth n i0 v1 x = some q) : am_Ev am_PR d 39 [am_R 1 i0, am_I v1] (x, z) (cvI0 z q) := by
  obtain ⟨d, rfl⟩ : ∃ e, d = e + 1 := ⟨d - 1, by omega⟩
  refine to_ev (P := (am_tab pX5_takesWorth)) rfl (lv := [(0, am_R 1 i0), (1, am_I v1)]) rfl ?_ q h
  unfold f_X5_takesWorth
  refine to_if 2 (c := v1 < 0) (p1 := 20) (p2 := 4) (a' := ([(0, am_R 1 i0), (1, am_I v1)], ([], (x, z)))) rfl (fun c_1 => ?_) (fun c_1 => ?_)
  · exact to_rk 1 21 (c := am_bz (0 : Int32) = true) (r := ((0 : Int32), x)) rfl rfl (by decide)
  · refine to_if 3 (c := (9 : Int32) < v1) (p1 := 20) (p2 := 10) (a' := ([(0, am_R 1 i0), (1, am_I v1)], ([], (x, z)))) rfl (fun c_2 => ?_) (fun c_2 => ?_)
    · exact to_rk 1 21 (c := am_bz (0 : Int32) = true) (r := ((0 : Int32), x)) rfl rfl (by decide)
    · refine to_cl 3 (lv := [(0, am_R 1 i0), (1, am_I v1)]) (st := []) (M := (x, z)) (cb := (cvI0 z)) rfl (fun q hq => t_X8_isDeed (by omega) hq) (fun q3 => ?_)
      refine to_if 1 (c := ¬ q3.1 = 0) (p1 := 22) (p2 := 20) (a' := ([(0, am_R 1 i0), (1, am_I v1)], ([], (q3.2, z)))) rfl (fun c_4 => ?_) (fun c_4 => ?_)
      · refine to_go 4 (pc' := 30) (a' := ([(0, am_R 1 i0), (1, am_I v1)], ([am_R 1 i0, am_R 10 1], (q3.2, z)))) rfl ?_
        refine to_gd 2 34 (c := am_inB (xF q3.2 1 4 i0) 4 = true) (pc' := 35) (a' := ([(0, am_R 1 i0), (1, am_I v1)], ([], ((sA q3.2 10 1 (Int32.toNatClampNeg (xF q3.2 1 4 i0)) v1), z)))) rfl rfl (fun c_5 => ?_)
        refine to_go 4 (pc' := 41) (a' := ([(0, am_R 1 i0), (1, am_I v1)], ([am_I (1 : Int32)], ((sF (sA q3.2 10 1 (Int32.toNatClampNeg (xF q3.2 1 4 i0)) v1) 1 3 i0 (2 : Int32)), z)))) rfl ?_
        exact to_rk 0 41 (c := am_bz (1 : Int32) = true) (r := ((1 : Int32), (sF (sA q3.2 10 1 (Int32.toNatClampNeg (xF q3.2 1 4 i0)) v1) 1 3 i0 (2 : Int32)))) rfl rfl (by decide)
      · exact to_rk 1 21 (c := am_bz (0 : Int32) = true) (r := ((0 : Int32), q3.2)) rfl rfl (by decide)
def f_X5_takesTerm (n : Nat) (i0 : Nat) (v1 : Int32) (x : am_X) : Option (Int32 × am_X) := if v1 < (1 : Int32) then (some ((0 : Int32), x)) else (if (9 : Int32) < v1 then (some ((0 : Int32), x)) else ((f_X8_isDeed n (xF x 1 4 i0) x).bind fun q3 => if ¬ q3.1 = 0 then (if am_inB (xF q3.2 1 4 i0) 4 = true then (if am_inB (xF q3.2 1 4 i0) 4 = true then (some ((1 : Int32), (sF (sA (sA q3.2 9 1 (Int32.toNatClampNeg (xF q3.2 1 4 i0)) v1) 11 1 (Int32.toNatClampNeg (xF q3.2 1 4 i0)) (0 : Int32)) 1 3 i0 (1 : Int32)))) else none) else none) else (some ((0 : Int32), q3.2))))
theorem t_X5_takesTerm {n : Nat} {d : Nat} {i0 : Nat} {v1 : Int32} {x z : am_X} {q : Int32 × am_X} (hd : 2 ≤ d) (h : f_X5_takesTerm n i0 v1 x = some q) : am_Ev am_PR d 38 [am_R 1 i0, am_I v1] (x, z) (cvI0 z q) := by
  obtain ⟨d, rfl⟩ : ∃ e, d = e + 1 := ⟨d - 1, by omega⟩
  refine to_ev (P := (am_tab pX5_takesTerm)) rfl (lv := [(0, am_R 1 i0), (1, am_I v1)]) rfl ?_ q h
  unfold f_X5_takesTerm
  refine to_if 3 (c := v1 < (1 : Int32)) (p1 := 21) (p2 := 5) (a' := ([(0, am_R 1 i0), (1, am_I v1)], ([], (x, z)))) rfl (fun c_1 => ?_) (fun c_1 => ?_)
  · exact to_rk 1 22 (c := am_bz (0 : Int32) = true) (r := ((0 : Int32), x)) rfl rfl (by decide)
  · refine to_if 3 (c := (9 : Int32) < v1) (p1 := 21) (p2 := 11) (a' := ([(0, am_R 1 i0), (1, am_I v1)], ([], (x, z)))) rfl (fun c_2 => ?_) (fun c_2 => ?_)
    · exact to_rk 1 22 (c := am_bz (0 : Int32) = true) (r := ((0 : Int32), x)) rfl rfl (by decide)
    · refine to_cl 3 (lv := [(0, am_R 1 i0), (1, am_I v1)]) (st := []) (M := (x, z)) (cb := (cvI0 z)) rfl (fun q hq => t_X8_isDeed (by omega) hq) (fun q3 => ?_)
      refine to_if 1 (c := ¬ q3.1 = 0) (p1 := 23) (p2 := 21) (a' := ([(0, am_R 1 i0), (1, am_I v1)], ([], (q3.2, z)))) rfl (fun c_4 => ?_) (fun c_4 => ?_)
      · refine to_go 4 (pc' := 31) (a' := ([(0, am_R 1 i0), (1, am_I v1)], ([am_R 1 i0, am_R 9 1], (q3.2, z)))) rfl ?_
        refine to_gd 2 35 (c := am_inB (xF q3.2 1 4 i0) 4 = true) (pc' := 36) (a' := ([(0, am_R 1 i0), (1, am_I v1)], ([], ((sA q3.2 9 1 (Int32.toNatClampNeg (xF q3.2 1 4 i0)) v1), z)))) rfl rfl (fun c_5 => ?_)
        refine to_go 4 (pc' := 44) (a' := ([(0, am_R 1 i0), (1, am_I v1)], ([am_R 1 i0, am_R 11 1], ((sA q3.2 9 1 (Int32.toNatClampNeg (xF q3.2 1 4 i0)) v1), z)))) rfl ?_
        refine to_gd 2 48 (c := am_inB (xF q3.2 1 4 i0) 4 = true) (pc' := 49) (a' := ([(0, am_R 1 i0), (1, am_I v1)], ([], ((sA (sA q3.2 9 1 (Int32.toNatClampNeg (xF q3.2 1 4 i0)) v1) 11 1 (Int32.toNatClampNeg (xF q3.2 1 4 i0)) (0 : Int32)), z)))) rfl rfl (fun c_6 => ?_)
        refine to_go 4 (pc' := 55) (a' := ([(0, am_R 1 i0), (1, am_I v1)], ([am_I (1 : Int32)], ((sF (sA (sA q3.2 9 1 (Int32.toNatClampNeg (xF q3.2 1 4 i0)) v1) 11 1 (Int32.toNatClampNeg (xF q3.2 1 4 i0)) (0 : Int32)) 1 3 i0 (1 : Int32)), z)))) rfl ?_
        exact to_rk 0 55 (c := am_bz (1 : Int32) = true) (r := ((1 : Int32), (sF (sA (sA q3.2 9 1 (Int32.toNatClampNeg (xF q3.2 1 4 i0)) v1) 11 1 (Int32.toNatClampNeg (xF q3.2 1 4 i0)) (0 : Int32)) 1 3 i0 (1 : Int32)))) rfl rfl (by decide)
      · exact to_rk 1 22 (c := am_bz (0 : Int32) = true) (r := ((0 : Int32), q3.2)) rfl rfl (by decide)
def f_X5_takes (n : Nat) (i0 : Nat) (v1 : Int32) (x : am_X) : Option (Int32 × am_X) := if (xF x 1 3 i0) = (0 : Int32) then ((f_X5_takesTerm n i0 (v1 - (48 : Int32)) x).bind fun q2 => if am_bz q2.1 = true then some (q2.1, q2.2) else none) else if (xF x 1 3 i0) = (1 : Int32) then ((f_X5_takesWorth n i0 (v1 - (48 : Int32)) x).bind fun q4 => if am_bz q4.1 = true then some (q4.1, q4.2) else none) else if (xF x 1 3 i0) = (2 : Int32) then ((f_X5_takesColon n i0 v1 x).bind fun q6 => if am_bz q6.1 = true then some (q6.1, q6.2) else none) else if (xF x 1 3 i0) = (3 : Int32) then ((f_X5_takesSort n i0 (v1 - (48 : Int32)) x).bind fun q8 => if am_bz q8.1 = true then some (q8.1, q8.2) else none) else if (xF x 1 3 i0) = (4 : Int32) then ((f_X5_takesSort n i0 (v1 - (48 : Int32)) x).bind fun q10 => if ¬ q10.1 = 0 then (some ((1 : Int32), q10.2)) else ((f_X5_takesEndOfDeed n i0 v1 q10.2).bind fun q12 => if q12.1 = 0 then (some ((0 : Int32), q12.2)) else (some ((1 : Int32), q12.2)))) else if (xF x 1 3 i0) = (5 : Int32) then ((f_X5_takesLapse n i0 (v1 - (48 : Int32)) x).bind fun q15 => if am_bz q15.1 = true then some (q15.1, q15.2) else none) else (some ((0 : Int32), x))
theorem t_X5_takes {n : Nat} {d : Nat} {i0 : Nat} {v1 : Int32} {x z : am_X} {q : Int32 × am_X} (hd : 3 ≤ d) (h : f_X5_takes n i0 v1 x = some q) : am_Ev am_PR d 37 [am_R 1 i0, am_I v1] (x, z) (cvI0 z q) := by
  obtain ⟨d, rfl⟩ : ∃ e, d = e + 1 := ⟨d - 1, by omega⟩
  refine to_ev (P := (am_tab pX5_takes)) rfl (lv := [(0, am_R 1 i0), (1, am_I v1)]) rfl ?_ q h
  unfold f_X5_takes
  refine to_go 4 (pc' := 5) (a' := ([(2, am_I (v1 - (48 : Int32))), (0, am_R 1 i0), (1, am_I v1)], ([], (x, z)))) rfl ?_
  refine to_si 3 (x := (xF x 1 3 i0)) (c := (0 : Int32)) (t := 48) (a' := ([(2, am_I (v1 - (48 : Int32))), (0, am_R 1 i0), (1, am_I v1)], ([], (x, z)))) rfl (by decide) (fun c_1 => ?_) (fun c_1 => ?_)
  · refine to_cl 3 (lv := [(2, am_I (v1 - (48 : Int32))), (0, am_R 1 i0), (1, am_I v1)]) (st := []) (M := (x, z)) (cb := (cvI0 z)) rfl (fun q hq => t_X5_takesTerm (by omega) hq) (fun q2 => ?_)
    exact to_rz 0 53 (c := am_bz q2.1 = true) (r := (q2.1, q2.2)) rfl rfl
  refine to_si 3 (x := (xF x 1 3 i0)) (c := (1 : Int32)) (t := 54) (a' := ([(2, am_I (v1 - (48 : Int32))), (0, am_R 1 i0), (1, am_I v1)], ([], (x, z)))) rfl (by decide) (fun c_3 => ?_) (fun c_3 => ?_)
  · refine to_cl 3 (lv := [(2, am_I (v1 - (48 : Int32))), (0, am_R 1 i0), (1, am_I v1)]) (st := []) (M := (x, z)) (cb := (cvI0 z)) rfl (fun q hq => t_X5_takesWorth (by omega) hq) (fun q4 => ?_)
    exact to_rz 0 59 (c := am_bz q4.1 = true) (r := (q4.1, q4.2)) rfl rfl
  refine to_si 3 (x := (xF x 1 3 i0)) (c := (2 : Int32)) (t := 60) (a' := ([(2, am_I (v1 - (48 : Int32))), (0, am_R 1 i0), (1, am_I v1)], ([], (x, z)))) rfl (by decide) (fun c_5 => ?_) (fun c_5 => ?_)
  · refine to_cl 3 (lv := [(2, am_I (v1 - (48 : Int32))), (0, am_R 1 i0), (1, am_I v1)]) (st := []) (M := (x, z)) (cb := (cvI0 z)) rfl (fun q hq => t_X5_takesColon (by omega) hq) (fun q6 => ?_)
    exact to_rz 0 65 (c := am_bz q6.1 = true) (r := (q6.1, q6.2)) rfl rfl
  refine to_si 3 (x := (xF x 1 3 i0)) (c := (3 : Int32)) (t := 66) (a' := ([(2, am_I (v1 - (48 : Int32))), (0, am_R 1 i0), (1, am_I v1)], ([], (x, z)))) rfl (by decide) (fun c_7 => ?_) (fun c_7 => ?_)
  · refine to_cl 3 (lv := [(2, am_I (v1 - (48 : Int32))), (0, am_R 1 i0), (1, am_I v1)]) (st := []) (M := (x, z)) (cb := (cvI0 z)) rfl (fun q hq => t_X5_takesSort (by omega) hq) (fun q8 => ?_)
    exact to_rz 0 71 (c := am_bz q8.1 = true) (r := (q8.1, q8.2)) rfl rfl
  refine to_si 3 (x := (xF x 1 3 i0)) (c := (4 : Int32)) (t := 72) (a' := ([(2, am_I (v1 - (48 : Int32))), (0, am_R 1 i0), (1, am_I v1)], ([], (x, z)))) rfl (by decide) (fun c_9 => ?_) (fun c_9 => ?_)
  · refine to_cl 3 (lv := [(2, am_I (v1 - (48 : Int32))), (0, am_R 1 i0), (1, am_I v1)]) (st := []) (M := (x, z)) (cb := (cvI0 z)) rfl (fun q hq => t_X5_takesSort (by omega) hq) (fun q10 => ?_)
    refine to_if 1 (c := ¬ q10.1 = 0) (p1 := 88) (p2 := 80) (a' := ([(2, am_I (v1 - (48 : Int32))), (0, am_R 1 i0), (1, am_I v1)], ([], (q10.2, z)))) rfl (fun c_11 => ?_) (fun c_11 => ?_)
    · exact to_rk 2 93 (c := am_bz (1 : Int32) = true) (r := ((1 : Int32), q10.2)) rfl rfl (by decide)
    · refine to_cl 3 (lv := [(2, am_I (v1 - (48 : Int32))), (0, am_R 1 i0), (1, am_I v1)]) (st := []) (M := (q10.2, z)) (cb := (cvI0 z)) rfl (fun q hq => t_X5_takesEndOfDeed (by omega) hq) (fun q12 => ?_)
      refine to_if 1 (c := q12.1 = 0) (p1 := 92) (p2 := 88) (a' := ([(2, am_I (v1 - (48 : Int32))), (0, am_R 1 i0), (1, am_I v1)], ([], (q12.2, z)))) rfl (fun c_13 => ?_) (fun c_13 => ?_)
      · exact to_rk 1 93 (c := am_bz (0 : Int32) = true) (r := ((0 : Int32), q12.2)) rfl rfl (by decide)
      · exact to_rk 2 93 (c := am_bz (1 : Int32) = true) (r := ((1 : Int32), q12.2)) rfl rfl (by decide)
  refine to_si 3 (x := (xF x 1 3 i0)) (c := (5 : Int32)) (t := 94) (a' := ([(2, am_I (v1 - (48 : Int32))), (0, am_R 1 i0), (1, am_I v1)], ([], (x, z)))) rfl (by decide) (fun c_14 => ?_) (fun c_14 => ?_)
  · refine to_cl 3 (lv := [(2, am_I (v1 - (48 : Int32))), (0, am_R 1 i0), (1, am_I v1)]) (st := []) (M := (x, z)) (cb := (cvI0 z)) rfl (fun q hq => t_X5_takesLapse (by omega) hq) (fun q15 => ?_)
    exact to_rz 0 99 (c := am_bz q15.1 = true) (r := (q15.1, q15.2)) rfl rfl
  refine to_sd 3 (x := (xF x 1 3 i0)) (cs := [0, 1, 2, 3, 4, 5]) (a' := ([(2, am_I (v1 - (48 : Int32))), (0, am_R 1 i0), (1, am_I v1)], ([], (x, z)))) rfl (by decide) (List.forall_mem_cons.mpr ⟨c_1, List.forall_mem_cons.mpr ⟨c_3, List.forall_mem_cons.mpr ⟨c_5, List.forall_mem_cons.mpr ⟨c_7, List.forall_mem_cons.mpr ⟨c_9, List.forall_mem_cons.mpr ⟨c_14, fun _ h => absurd h List.not_mem_nil⟩⟩⟩⟩⟩⟩) ?_
  exact to_rk 1 101 (c := am_bz (0 : Int32) = true) (r := ((0 : Int32), x)) rfl rfl (by decide)
def b_X5_firstFault_12 (n : Nat) : Nat → Nat → Int32 → am_X → Option (Int32 × am_X)
  | 0, _, _, _ => none
  | k + 1, i0, v1, x => if (xF x 1 2 i0) ≤ v1 then (some ((xF x 1 2 i0), x)) else ((f_X5_at n i0 v1 x).bind fun q2 => (f_X5_takes n i0 q2.1 q2.2).bind fun q3 => if ¬ q3.1 = 0 then (b_X5_firstFault_12 n k i0 (v1 + (1 : Int32)) q3.2) else (some (v1, q3.2)))
theorem tb_X5_firstFault_12 {n : Nat} {d : Nat} {z : am_X} (hd : 3 ≤ d) : ∀ (k : Nat) (i0 : Nat) (v1 : Int32) (x : am_X), am_To d (am_tab pX5_firstFault) 12 ([(0, am_R 1 i0), (1, am_I v1)], ([], (x, z))) (cvI0 z) (b_X5_firstFault_12 n k i0 v1 x) := by
  intro k
  induction k with
  | zero =>
    intro i0 v1 x
    exact to_0
  | succ k ih =>
    intro i0 v1 x
    rw [b_X5_firstFault_12]
    refine to_if 4 (c := (xF x 1 2 i0) ≤ v1) (p1 := 40) (p2 := 20) (a' := ([(0, am_R 1 i0), (1, am_I v1)], ([], (x, z)))) rfl (fun c_1 => ?_) (fun c_1 => ?_)
    · exact to_rt 3 (r := ((xF x 1 2 i0), x)) rfl
    · refine to_cl 4 (lv := [(0, am_R 1 i0), (1, am_I v1)]) (st := [am_R 1 i0]) (M := (x, z)) (cb := (cvI0 z)) rfl (fun q hq => t_X5_at (by omega) hq) (fun q2 => ?_)
      refine to_cl 1 (lv := [(0, am_R 1 i0), (1, am_I v1)]) (st := []) (M := (q2.2, z)) (cb := (cvI0 z)) rfl (fun q hq => t_X5_takes (by omega) hq) (fun q3 => ?_)
      refine to_if 1 (c := ¬ q3.1 = 0) (p1 := 34) (p2 := 32) (a' := ([(0, am_R 1 i0), (1, am_I v1)], ([], (q3.2, z)))) rfl (fun c_4 => ?_) (fun c_4 => ?_)
      · refine to_go 2 (pc' := 12) (a' := ([(1, am_I (v1 + (1 : Int32))), (0, am_R 1 i0)], ([], (q3.2, z)))) rfl ?_
        refine to_fg [1, 0] (lv' := [(0, am_R 1 i0), (1, am_I (v1 + (1 : Int32)))]) rfl ?_
        exact ih i0 (v1 + (1 : Int32)) q3.2
      · exact to_rt 2 (r := (v1, q3.2)) rfl
def f_X5_firstFault (n : Nat) (i0 : Nat) (x : am_X) : Option (Int32 × am_X) := b_X5_firstFault_12 n n i0 (0 : Int32) (sF (sF x 1 3 i0 (0 : Int32)) 1 4 i0 (0 : Int32))
theorem t_X5_firstFault {n : Nat} {d : Nat} {i0 : Nat} {x z : am_X} {q : Int32 × am_X} (hd : 4 ≤ d) (h : f_X5_firstFault n i0 x = some q) : am_Ev am_PR d 35 [am_R 1 i0] (x, z) (cvI0 z q) := by
  obtain ⟨d, rfl⟩ : ∃ e, d = e + 1 := ⟨d - 1, by omega⟩
  refine to_ev (P := (am_tab pX5_firstFault)) rfl (lv := [(0, am_R 1 i0)]) rfl ?_ q h
  unfold f_X5_firstFault
  refine to_go 4 (pc' := 6) (a' := ([(0, am_R 1 i0)], ([am_R 1 i0], ((sF x 1 3 i0 (0 : Int32)), z)))) rfl ?_
  refine to_go 4 (pc' := 12) (a' := ([(1, am_I (0 : Int32)), (0, am_R 1 i0)], ([], ((sF (sF x 1 3 i0 (0 : Int32)) 1 4 i0 (0 : Int32)), z)))) rfl ?_
  refine to_fg [1, 0] (lv' := [(0, am_R 1 i0), (1, am_I (0 : Int32))]) rfl ?_
  exact tb_X5_firstFault_12 (by omega)  n i0 (0 : Int32) (sF (sF x 1 3 i0 (0 : Int32)) 1 4 i0 (0 : Int32))
def f_X5_isLaw (n : Nat) (i0 : Nat) (x : am_X) : Option (Int32 × am_X) := (f_X5_firstFault n i0 x).bind fun q1 => if ¬ q1.1 = (xF q1.2 1 2 i0) then (some ((0 : Int32), q1.2)) else (if ¬ (xF q1.2 1 3 i0) = (6 : Int32) then (some ((0 : Int32), q1.2)) else (some ((1 : Int32), q1.2)))
theorem t_X5_isLaw {n : Nat} {d : Nat} {i0 : Nat} {x z : am_X} {q : Int32 × am_X} (hd : 5 ≤ d) (h : f_X5_isLaw n i0 x = some q) : am_Ev am_PR d 36 [am_R 1 i0] (x, z) (cvI0 z q) := by
  obtain ⟨d, rfl⟩ : ∃ e, d = e + 1 := ⟨d - 1, by omega⟩
  refine to_ev (P := (am_tab pX5_isLaw)) rfl (lv := [(0, am_R 1 i0)]) rfl ?_ q h
  unfold f_X5_isLaw
  refine to_cl 2 (lv := [(0, am_R 1 i0)]) (st := []) (M := (x, z)) (cb := (cvI0 z)) rfl (fun q hq => t_X5_firstFault (by omega) hq) (fun q1 => ?_)
  refine to_if 3 (c := ¬ q1.1 = (xF q1.2 1 2 i0)) (p1 := 24) (p2 := 11) (a' := ([(0, am_R 1 i0)], ([], (q1.2, z)))) rfl (fun c_2 => ?_) (fun c_2 => ?_)
  · exact to_rk 1 25 (c := am_bz (0 : Int32) = true) (r := ((0 : Int32), q1.2)) rfl rfl (by decide)
  · refine to_if 4 (c := ¬ (xF q1.2 1 3 i0) = (6 : Int32)) (p1 := 24) (p2 := 20) (a' := ([(0, am_R 1 i0)], ([], (q1.2, z)))) rfl (fun c_3 => ?_) (fun c_3 => ?_)
    · exact to_rk 1 25 (c := am_bz (0 : Int32) = true) (r := ((0 : Int32), q1.2)) rfl rfl (by decide)
    · exact to_rk 2 25 (c := am_bz (1 : Int32) = true) (r := ((1 : Int32), q1.2)) rfl rfl (by decide)
def f_X6_begin (n : Nat) (i0 : Nat) (i1 : Nat) (x : am_X) : Option (am_X) := some (sF (sF (sF (sF (sF (sK x i0 i1) 4 2 i0 (0 : Int32)) 4 3 i0 (0 : Int32)) 4 4 i0 (0 : Int32)) 4 5 i0 (0 : Int32)) 5 1 i0 (0 : Int32))
theorem t_X6_begin {n : Nat} {d : Nat} {i0 : Nat} {i1 : Nat} {x z : am_X} {q : am_X} (hd : 1 ≤ d) (h : f_X6_begin n i0 i1 x = some q) : am_Ev am_PR d 44 [am_R 4 i0, am_R 20 i1] (x, z) (cvV0 z q) := by
  obtain ⟨d, rfl⟩ : ∃ e, d = e + 1 := ⟨d - 1, by omega⟩
  refine to_ev (P := (am_tab pX6_begin)) rfl (lv := [(0, am_R 4 i0), (1, am_R 20 i1)]) rfl ?_ q h
  unfold f_X6_begin
  refine to_go 4 (pc' := 6) (a' := ([(0, am_R 4 i0), (1, am_R 20 i1)], ([am_R 4 i0], ((sK x i0 i1), z)))) rfl ?_
  refine to_go 4 (pc' := 12) (a' := ([(0, am_R 4 i0), (1, am_R 20 i1)], ([am_I (0 : Int32), am_R 4 i0], ((sF (sK x i0 i1) 4 2 i0 (0 : Int32)), z)))) rfl ?_
  refine to_gk 3 17 (c := am_bz (0 : Int32) = true) (pc' := 20) (a' := ([(0, am_R 4 i0), (1, am_R 20 i1)], ([], ((sF (sF (sF (sK x i0 i1) 4 2 i0 (0 : Int32)) 4 3 i0 (0 : Int32)) 4 4 i0 (0 : Int32)), z)))) rfl rfl (by decide) ?_
  refine to_gk 2 22 (c := am_bz (0 : Int32) = true) (pc' := 25) (a' := ([(0, am_R 4 i0), (1, am_R 20 i1)], ([], ((sF (sF (sF (sF (sK x i0 i1) 4 2 i0 (0 : Int32)) 4 3 i0 (0 : Int32)) 4 4 i0 (0 : Int32)) 4 5 i0 (0 : Int32)), z)))) rfl rfl (by decide) ?_
  refine to_go 4 (pc' := 33) (a' := ([(0, am_R 4 i0), (1, am_R 20 i1)], ([], ((sF (sF (sF (sF (sF (sK x i0 i1) 4 2 i0 (0 : Int32)) 4 3 i0 (0 : Int32)) 4 4 i0 (0 : Int32)) 4 5 i0 (0 : Int32)) 5 1 i0 (0 : Int32)), z)))) rfl ?_
  exact to_rt 1 rfl
def f_X6_told (n : Nat) (i0 : Nat) (v1 : Int32) (x : am_X) : Option (Int32 × am_X) := if v1 = (0 : Int32) then (some ((List.getD [0, 1, 2, 3, 4] (xK x i0) 0), x)) else if v1 = (1 : Int32) then (some ((xF x 4 2 i0), x)) else if v1 = (2 : Int32) then (some ((xF x 4 3 i0), x)) else if v1 = (3 : Int32) then (some ((xF x 5 1 i0), x)) else if v1 = (4 : Int32) then ((f_X0_howMany n i0 (1 : Int32) (0 : Int32) x).bind fun q6 => some (q6.1, q6.2)) else if v1 = (5 : Int32) then ((f_X0_howMany n i0 (2 : Int32) (0 : Int32) x).bind fun q8 => some (q8.1, q8.2)) else if v1 = (6 : Int32) then ((f_X0_howMany n i0 (4 : Int32) (0 : Int32) x).bind fun q10 => some (q10.1, q10.2)) else if v1 = (7 : Int32) then ((f_X0_oldestWeek n i0 (7 : Int32) x).bind fun q12 => some (q12.1, q12.2)) else if v1 = (8 : Int32) then (if (xF x 4 4 i0) = 0 then (some ((0 : Int32), x)) else (some ((1 : Int32), x))) else (if (xF x 4 5 i0) = 0 then (some ((0 : Int32), x)) else (some ((1 : Int32), x)))
theorem t_X6_told {n : Nat} {d : Nat} {i0 : Nat} {v1 : Int32} {x z : am_X} {q : Int32 × am_X} (hd : 3 ≤ d) (h : f_X6_told n i0 v1 x = some q) : am_Ev am_PR d 46 [am_R 4 i0, am_I v1] (x, z) (cvI0 z q) := by
  obtain ⟨d, rfl⟩ : ∃ e, d = e + 1 := ⟨d - 1, by omega⟩
  refine to_ev (P := (am_tab pX6_told)) rfl (lv := [(0, am_R 4 i0), (1, am_I v1)]) rfl ?_ q h
  unfold f_X6_told
  refine to_si 2 (x := v1) (c := (0 : Int32)) (t := 52) (a' := ([(0, am_R 4 i0), (1, am_I v1)], ([], (x, z)))) rfl (by decide) (fun c_1 => ?_) (fun c_1 => ?_)
  · exact to_rt 4 (r := ((List.getD [0, 1, 2, 3, 4] (xK x i0) 0), x)) rfl
  refine to_si 2 (x := v1) (c := (1 : Int32)) (t := 60) (a' := ([(0, am_R 4 i0), (1, am_I v1)], ([], (x, z)))) rfl (by decide) (fun c_2 => ?_) (fun c_2 => ?_)
  · exact to_rt 3 (r := ((xF x 4 2 i0), x)) rfl
  refine to_si 2 (x := v1) (c := (2 : Int32)) (t := 65) (a' := ([(0, am_R 4 i0), (1, am_I v1)], ([], (x, z)))) rfl (by decide) (fun c_3 => ?_) (fun c_3 => ?_)
  · exact to_rt 3 (r := ((xF x 4 3 i0), x)) rfl
  refine to_si 2 (x := v1) (c := (3 : Int32)) (t := 70) (a' := ([(0, am_R 4 i0), (1, am_I v1)], ([], (x, z)))) rfl (by decide) (fun c_4 => ?_) (fun c_4 => ?_)
  · exact to_rt 4 (r := ((xF x 5 1 i0), x)) rfl
  refine to_si 2 (x := v1) (c := (4 : Int32)) (t := 78) (a' := ([(0, am_R 4 i0), (1, am_I v1)], ([], (x, z)))) rfl (by decide) (fun c_5 => ?_) (fun c_5 => ?_)
  · refine to_go 4 (pc' := 84) (a' := ([(0, am_R 4 i0), (1, am_I v1)], ([am_I (0 : Int32), am_I (1 : Int32), am_R 5 i0], (x, z)))) rfl ?_
    refine to_cl 1 (lv := [(0, am_R 4 i0), (1, am_I v1)]) (st := []) (M := (x, z)) (cb := (cvI0 z)) rfl (fun q hq => t_X0_howMany (by omega) hq) (fun q6 => ?_)
    exact to_rt 1 (r := (q6.1, q6.2)) rfl
  refine to_si 2 (x := v1) (c := (5 : Int32)) (t := 88) (a' := ([(0, am_R 4 i0), (1, am_I v1)], ([], (x, z)))) rfl (by decide) (fun c_7 => ?_) (fun c_7 => ?_)
  · refine to_go 4 (pc' := 94) (a' := ([(0, am_R 4 i0), (1, am_I v1)], ([am_I (0 : Int32), am_I (2 : Int32), am_R 5 i0], (x, z)))) rfl ?_
    refine to_cl 1 (lv := [(0, am_R 4 i0), (1, am_I v1)]) (st := []) (M := (x, z)) (cb := (cvI0 z)) rfl (fun q hq => t_X0_howMany (by omega) hq) (fun q8 => ?_)
    exact to_rt 1 (r := (q8.1, q8.2)) rfl
  refine to_si 2 (x := v1) (c := (6 : Int32)) (t := 98) (a' := ([(0, am_R 4 i0), (1, am_I v1)], ([], (x, z)))) rfl (by decide) (fun c_9 => ?_) (fun c_9 => ?_)
  · refine to_go 4 (pc' := 104) (a' := ([(0, am_R 4 i0), (1, am_I v1)], ([am_I (0 : Int32), am_I (4 : Int32), am_R 5 i0], (x, z)))) rfl ?_
    refine to_cl 1 (lv := [(0, am_R 4 i0), (1, am_I v1)]) (st := []) (M := (x, z)) (cb := (cvI0 z)) rfl (fun q hq => t_X0_howMany (by omega) hq) (fun q10 => ?_)
    exact to_rt 1 (r := (q10.1, q10.2)) rfl
  refine to_si 2 (x := v1) (c := (7 : Int32)) (t := 108) (a' := ([(0, am_R 4 i0), (1, am_I v1)], ([], (x, z)))) rfl (by decide) (fun c_11 => ?_) (fun c_11 => ?_)
  · refine to_cl 4 (lv := [(0, am_R 4 i0), (1, am_I v1)]) (st := []) (M := (x, z)) (cb := (cvI0 z)) rfl (fun q hq => t_X0_oldestWeek (by omega) hq) (fun q12 => ?_)
    exact to_rt 1 (r := (q12.1, q12.2)) rfl
  refine to_si 2 (x := v1) (c := (8 : Int32)) (t := 118) (a' := ([(0, am_R 4 i0), (1, am_I v1)], ([], (x, z)))) rfl (by decide) (fun c_13 => ?_) (fun c_13 => ?_)
  · refine to_if 3 (c := (xF x 4 4 i0) = 0) (p1 := 129) (p2 := 125) (a' := ([(0, am_R 4 i0), (1, am_I v1)], ([], (x, z)))) rfl (fun c_14 => ?_) (fun c_14 => ?_)
    · exact to_rt 2 (r := ((0 : Int32), x)) rfl
    · exact to_rt 3 (r := ((1 : Int32), x)) rfl
  refine to_sd 2 (x := v1) (cs := [0, 1, 2, 3, 4, 5, 6, 7, 8]) (a' := ([(0, am_R 4 i0), (1, am_I v1)], ([], (x, z)))) rfl (by decide) (List.forall_mem_cons.mpr ⟨c_1, List.forall_mem_cons.mpr ⟨c_2, List.forall_mem_cons.mpr ⟨c_3, List.forall_mem_cons.mpr ⟨c_4, List.forall_mem_cons.mpr ⟨c_5, List.forall_mem_cons.mpr ⟨c_7, List.forall_mem_cons.mpr ⟨c_9, List.forall_mem_cons.mpr ⟨c_11, List.forall_mem_cons.mpr ⟨c_13, fun _ h => absurd h List.not_mem_nil⟩⟩⟩⟩⟩⟩⟩⟩⟩) ?_
  refine to_if 3 (c := (xF x 4 5 i0) = 0) (p1 := 142) (p2 := 138) (a' := ([(0, am_R 4 i0), (1, am_I v1)], ([], (x, z)))) rfl (fun c_15 => ?_) (fun c_15 => ?_)
  · exact to_rt 2 (r := ((0 : Int32), x)) rfl
  · exact to_rt 3 (r := ((1 : Int32), x)) rfl
def b_X7_copy_2 (n : Nat) : Nat → Nat → Nat → Int32 → am_X → Option (am_X)
  | 0, _, _, _, _ => none
  | k + 1, i0, i1, v2, x => if (4 : Int32) ≤ v2 then (some (sF (sF x 3 1 i0 (xF x 3 1 i1)) 3 2 i0 (xF x 3 2 i1))) else (if am_inB v2 4 = true then (if am_inB v2 4 = true then ((f_X6_copy n (4 * i0 + (Int32.toNatClampNeg v2)) (4 * i1 + (Int32.toNatClampNeg v2)) x).bind fun q4 => b_X7_copy_2 n k i0 i1 (v2 + (1 : Int32)) q4) else none) else none)
theorem tb_X7_copy_2 {n : Nat} {d : Nat} {z : am_X} (hd : 2 ≤ d) : ∀ (k : Nat) (i0 : Nat) (i1 : Nat) (v2 : Int32) (x : am_X), am_To d (am_tab pX7_copy) 2 ([(0, am_R 3 i0), (1, am_R 3 i1), (2, am_I v2)], ([], (x, z))) (cvV0 z) (b_X7_copy_2 n k i0 i1 v2 x) := by
  intro k
  induction k with
  | zero =>
    intro i0 i1 v2 x
    exact to_0
  | succ k ih =>
    intro i0 i1 v2 x
    rw [b_X7_copy_2]
    refine to_if 3 (c := (4 : Int32) ≤ v2) (p1 := 28) (p2 := 7) (a' := ([(0, am_R 3 i0), (1, am_R 3 i1), (2, am_I v2)], ([], (x, z)))) rfl (fun c_1 => ?_) (fun c_1 => ?_)
    · refine to_go 4 (pc' := 36) (a' := ([(0, am_R 3 i0), (1, am_R 3 i1), (2, am_I v2)], ([], ((sF x 3 1 i0 (xF x 3 1 i1)), z)))) rfl ?_
      refine to_go 4 (pc' := 44) (a' := ([(0, am_R 3 i0), (1, am_R 3 i1), (2, am_I v2)], ([], ((sF (sF x 3 1 i0 (xF x 3 1 i1)) 3 2 i0 (xF x 3 2 i1)), z)))) rfl ?_
      exact to_rt 1 rfl
    · refine to_gd 3 12 (c := am_inB v2 4 = true) (pc' := 13) (a' := ([(0, am_R 3 i0), (1, am_R 3 i1), (2, am_I v2)], ([am_R 4 (4 * i0 + (Int32.toNatClampNeg v2))], (x, z)))) rfl rfl (fun c_2 => ?_)
      refine to_gd 3 18 (c := am_inB v2 4 = true) (pc' := 19) (a' := ([(0, am_R 3 i0), (1, am_R 3 i1), (2, am_I v2)], ([am_R 4 (4 * i1 + (Int32.toNatClampNeg v2)), am_R 4 (4 * i0 + (Int32.toNatClampNeg v2))], (x, z)))) rfl rfl (fun c_3 => ?_)
      refine to_cl 1 (lv := [(0, am_R 3 i0), (1, am_R 3 i1), (2, am_I v2)]) (st := []) (M := (x, z)) (cb := (cvV0 z)) rfl (fun q hq => t_X6_copy (by omega) hq) (fun q4 => ?_)
      refine to_go 2 (pc' := 2) (a' := ([(2, am_I (v2 + (1 : Int32))), (0, am_R 3 i0), (1, am_R 3 i1)], ([], (q4, z)))) rfl ?_
      refine to_fg [1, 2, 0] (lv' := [(0, am_R 3 i0), (1, am_R 3 i1), (2, am_I (v2 + (1 : Int32)))]) rfl ?_
      exact ih i0 i1 (v2 + (1 : Int32)) q4
def f_X7_copy (n : Nat) (i0 : Nat) (i1 : Nat) (x : am_X) : Option (am_X) := b_X7_copy_2 n n i0 i1 (0 : Int32) x
theorem t_X7_copy {n : Nat} {d : Nat} {i0 : Nat} {i1 : Nat} {x z : am_X} {q : am_X} (hd : 3 ≤ d) (h : f_X7_copy n i0 i1 x = some q) : am_Ev am_PR d 55 [am_R 3 i0, am_R 3 i1] (x, z) (cvV0 z q) := by
  obtain ⟨d, rfl⟩ : ∃ e, d = e + 1 := ⟨d - 1, by omega⟩
  refine to_ev (P := (am_tab pX7_copy)) rfl (lv := [(0, am_R 3 i0), (1, am_R 3 i1)]) rfl ?_ q h
  unfold f_X7_copy
  refine to_go 2 (pc' := 2) (a' := ([(2, am_I (0 : Int32)), (0, am_R 3 i0), (1, am_R 3 i1)], ([], (x, z)))) rfl ?_
  refine to_fg [1, 2, 0] (lv' := [(0, am_R 3 i0), (1, am_R 3 i1), (2, am_I (0 : Int32))]) rfl ?_
  exact tb_X7_copy_2 (by omega)  n i0 i1 (0 : Int32) x
