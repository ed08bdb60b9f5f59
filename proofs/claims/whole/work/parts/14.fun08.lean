def f_X9_years (n : Nat) (i0 : Nat) (v1 : Int32) (v2 : Int32) (v3 : Int32) (x : am_X) : Option (Int32 × am_X) := (f_X9_within n v1 (1 : Int32) (60 : Int32) x).bind fun q1 => if q1.1 = 0 then (some ((-102 : Int32), q1.2)) else (if v2 < 0 then (some ((-102 : Int32), q1.2)) else ((f_X9_within n v3 (0 : Int32) (3 : Int32) q1.2).bind fun q4 => if ¬ q4.1 = 0 then (if (xF q4.2 32 0 i0) = 0 then (some ((-103 : Int32), q4.2)) else ((f_X9_yearsNow n i0 v1 v2 v3 q4.2).bind fun q7 => some (q7.1, q7.2))) else (some ((-102 : Int32), q4.2))))
theorem t_X9_years {n : Nat} {d : Nat} {i0 : Nat} {v1 : Int32} {v2 : Int32} {v3 : Int32} {x z : am_X} {q : Int32 × am_X} (hd : 7 ≤ d) (h : f_X9_years n i0 v1 v2 v3 x = some q) : am_Ev am_PR d 173 [am_R 32 i0, am_I v1, am_I v2, am_I v3] (z, x) (cvI1 z q) := by
  obtain ⟨d, rfl⟩ : ∃ e, d = e + 1 := ⟨d - 1, by omega⟩
  refine to_ev (P := (am_tab pX9_years)) rfl (lv := [(0, am_R 32 i0), (1, am_I v1), (2, am_I v2), (3, am_I v3)]) rfl ?_ q h
  unfold f_X9_years
  refine to_cl 4 (lv := [(0, am_R 32 i0), (1, am_I v1), (2, am_I v2), (3, am_I v3)]) (st := []) (M := (z, x)) (cb := (cvI1 z)) rfl (fun q hq => t_X9_within (by omega) hq) (fun q1 => ?_)
  refine to_if 1 (c := q1.1 = 0) (p1 := 23) (p2 := 10) (a' := ([(0, am_R 32 i0), (1, am_I v1), (2, am_I v2), (3, am_I v3)], ([], (z, q1.2)))) rfl (fun c_2 => ?_) (fun c_2 => ?_)
  · exact to_rt 2 (r := ((-102 : Int32), q1.2)) rfl
  · refine to_if 2 (c := v2 < 0) (p1 := 23) (p2 := 14) (a' := ([(0, am_R 32 i0), (1, am_I v1), (2, am_I v2), (3, am_I v3)], ([], (z, q1.2)))) rfl (fun c_3 => ?_) (fun c_3 => ?_)
    · exact to_rt 2 (r := ((-102 : Int32), q1.2)) rfl
    · refine to_cl 4 (lv := [(0, am_R 32 i0), (1, am_I v1), (2, am_I v2), (3, am_I v3)]) (st := []) (M := (z, q1.2)) (cb := (cvI1 z)) rfl (fun q hq => t_X9_within (by omega) hq) (fun q4 => ?_)
      refine to_if 1 (c := ¬ q4.1 = 0) (p1 := 26) (p2 := 23) (a' := ([(0, am_R 32 i0), (1, am_I v1), (2, am_I v2), (3, am_I v3)], ([], (z, q4.2)))) rfl (fun c_5 => ?_) (fun c_5 => ?_)
      · refine to_if 3 (c := (xF q4.2 32 0 i0) = 0) (p1 := 43) (p2 := 33) (a' := ([(0, am_R 32 i0), (1, am_I v1), (2, am_I v2), (3, am_I v3)], ([], (z, q4.2)))) rfl (fun c_6 => ?_) (fun c_6 => ?_)
        · exact to_rt 2 (r := ((-103 : Int32), q4.2)) rfl
        · refine to_go 4 (pc' := 37) (a' := ([(0, am_R 32 i0), (1, am_I v1), (2, am_I v2), (3, am_I v3)], ([am_I v3, am_I v2, am_I v1, am_R 32 i0], (z, q4.2)))) rfl ?_
          refine to_cl 1 (lv := [(0, am_R 32 i0), (1, am_I v1), (2, am_I v2), (3, am_I v3)]) (st := []) (M := (z, q4.2)) (cb := (cvI1 z)) rfl (fun q hq => t_X9_yearsNow (by omega) hq) (fun q7 => ?_)
          exact to_rt 2 (r := (q7.1, q7.2)) rfl
      · exact to_rt 2 (r := ((-102 : Int32), q4.2)) rfl
def b_X9_image_96 (n : Nat) : Nat → Nat → Int32 → am_X → Option (Int32 × am_X)
  | 0, _, _, _ => none
  | k + 1, i0, v1, x => if (48 : Int32) ≤ v1 then (some ((xF x 32 6 i0), x)) else (if am_inB v1 60 = true then (if am_inB v1 48 = true then (b_X9_image_96 n k i0 (v1 + (1 : Int32)) (sA x 99 0 (Int32.toNatClampNeg v1) (xA x 54 0 (Int32.toNatClampNeg v1)))) else none) else none)
theorem tb_X9_image_96 {n : Nat} {d : Nat} {z : am_X} (hd : 0 ≤ d) : ∀ (k : Nat) (i0 : Nat) (v1 : Int32) (x : am_X), am_To d (am_tab pX9_image) 96 ([(0, am_R 32 i0), (1, am_I v1)], ([], (z, x))) (cvI1 z) (b_X9_image_96 n k i0 v1 x) := by
  intro k
  induction k with
  | zero =>
    intro i0 v1 x
    exact to_0
  | succ k ih =>
    intro i0 v1 x
    rw [b_X9_image_96]
    refine to_if 3 (c := (48 : Int32) ≤ v1) (p1 := 120) (p2 := 102) (a' := ([(0, am_R 32 i0), (1, am_I v1)], ([], (z, x)))) rfl (fun c_1 => ?_) (fun c_1 => ?_)
    · exact to_rt 3 (r := ((xF x 32 6 i0), x)) rfl
    · refine to_go 4 (pc' := 108) (a' := ([(0, am_R 32 i0), (1, am_I v1)], ([am_R 32 i0, am_I v1, am_R 99 0], (z, x)))) rfl ?_
      refine to_gd 2 112 (c := am_inB v1 60 = true) (pc' := 113) (a' := ([(0, am_R 32 i0), (1, am_I v1)], ([am_I (xA x 54 0 (Int32.toNatClampNeg v1)), am_I v1, am_R 99 0], (z, x)))) rfl rfl (fun c_2 => ?_)
      refine to_gd 0 113 (c := am_inB v1 48 = true) (pc' := 114) (a' := ([(0, am_R 32 i0), (1, am_I v1)], ([], (z, (sA x 99 0 (Int32.toNatClampNeg v1) (xA x 54 0 (Int32.toNatClampNeg v1))))))) rfl rfl (fun c_3 => ?_)
      refine to_go 2 (pc' := 96) (a' := ([(1, am_I (v1 + (1 : Int32))), (0, am_R 32 i0)], ([], (z, (sA x 99 0 (Int32.toNatClampNeg v1) (xA x 54 0 (Int32.toNatClampNeg v1))))))) rfl ?_
      refine to_fg [1, 0] (lv' := [(0, am_R 32 i0), (1, am_I (v1 + (1 : Int32)))]) rfl ?_
      exact ih i0 (v1 + (1 : Int32)) (sA x 99 0 (Int32.toNatClampNeg v1) (xA x 54 0 (Int32.toNatClampNeg v1)))
def b_X9_image_23 (n : Nat) : Nat → Nat → Int32 → am_X → Option (Int32 × am_X)
  | 0, _, _, _ => none
  | k + 1, i0, v1, x => if (4 : Int32) ≤ v1 then (b_X9_image_96 n n i0 (0 : Int32) x) else (if am_inB v1 5 = true then (if am_inB v1 4 = true then (if am_inB v1 5 = true then (if am_inB v1 4 = true then (if am_inB v1 5 = true then (if am_inB v1 4 = true then (if am_inB v1 5 = true then (if am_inB v1 4 = true then (if am_inB v1 5 = true then (if am_inB v1 4 = true then (b_X9_image_23 n k i0 (v1 + (1 : Int32)) (sA (sA (sA (sA (sA x 94 0 (Int32.toNatClampNeg v1) (xA x 49 0 (Int32.toNatClampNeg v1))) 95 0 (Int32.toNatClampNeg v1) (xA x 50 0 (Int32.toNatClampNeg v1))) 96 0 (Int32.toNatClampNeg v1) (xA x 51 0 (Int32.toNatClampNeg v1))) 97 0 (Int32.toNatClampNeg v1) (xA x 52 0 (Int32.toNatClampNeg v1))) 98 0 (Int32.toNatClampNeg v1) (xA x 53 0 (Int32.toNatClampNeg v1)))) else none) else none) else none) else none) else none) else none) else none) else none) else none) else none)
theorem tb_X9_image_23 {n : Nat} {d : Nat} {z : am_X} (hd : 0 ≤ d) : ∀ (k : Nat) (i0 : Nat) (v1 : Int32) (x : am_X), am_To d (am_tab pX9_image) 23 ([(0, am_R 32 i0), (1, am_I v1)], ([], (z, x))) (cvI1 z) (b_X9_image_23 n k i0 v1 x) := by
  intro k
  induction k with
  | zero =>
    intro i0 v1 x
    exact to_0
  | succ k ih =>
    intro i0 v1 x
    rw [b_X9_image_23]
    refine to_if 3 (c := (4 : Int32) ≤ v1) (p1 := 94) (p2 := 28) (a' := ([(0, am_R 32 i0), (1, am_I v1)], ([], (z, x)))) rfl (fun c_1 => ?_) (fun c_1 => ?_)
    · refine to_go 2 (pc' := 96) (a' := ([(1, am_I (0 : Int32)), (0, am_R 32 i0)], ([], (z, x)))) rfl ?_
      refine to_fg [1, 0] (lv' := [(0, am_R 32 i0), (1, am_I (0 : Int32))]) rfl ?_
      exact tb_X9_image_96 (by omega)  n i0 (0 : Int32) x
    · refine to_go 4 (pc' := 34) (a' := ([(0, am_R 32 i0), (1, am_I v1)], ([am_R 32 i0, am_I v1, am_R 94 0], (z, x)))) rfl ?_
      refine to_gd 2 38 (c := am_inB v1 5 = true) (pc' := 39) (a' := ([(0, am_R 32 i0), (1, am_I v1)], ([am_I (xA x 49 0 (Int32.toNatClampNeg v1)), am_I v1, am_R 94 0], (z, x)))) rfl rfl (fun c_2 => ?_)
      refine to_gd 0 39 (c := am_inB v1 4 = true) (pc' := 40) (a' := ([(0, am_R 32 i0), (1, am_I v1)], ([], (z, (sA x 94 0 (Int32.toNatClampNeg v1) (xA x 49 0 (Int32.toNatClampNeg v1))))))) rfl rfl (fun c_3 => ?_)
      refine to_go 4 (pc' := 46) (a' := ([(0, am_R 32 i0), (1, am_I v1)], ([am_R 32 i0, am_I v1, am_R 95 0], (z, (sA x 94 0 (Int32.toNatClampNeg v1) (xA x 49 0 (Int32.toNatClampNeg v1))))))) rfl ?_
      refine to_gd 2 50 (c := am_inB v1 5 = true) (pc' := 51) (a' := ([(0, am_R 32 i0), (1, am_I v1)], ([am_I (xA x 50 0 (Int32.toNatClampNeg v1)), am_I v1, am_R 95 0], (z, (sA x 94 0 (Int32.toNatClampNeg v1) (xA x 49 0 (Int32.toNatClampNeg v1))))))) rfl rfl (fun c_4 => ?_)
      refine to_gd 0 51 (c := am_inB v1 4 = true) (pc' := 52) (a' := ([(0, am_R 32 i0), (1, am_I v1)], ([], (z, (sA (sA x 94 0 (Int32.toNatClampNeg v1) (xA x 49 0 (Int32.toNatClampNeg v1))) 95 0 (Int32.toNatClampNeg v1) (xA x 50 0 (Int32.toNatClampNeg v1))))))) rfl rfl (fun c_5 => ?_)
      refine to_go 4 (pc' := 58) (a' := ([(0, am_R 32 i0), (1, am_I v1)], ([am_R 32 i0, am_I v1, am_R 96 0], (z, (sA (sA x 94 0 (Int32.toNatClampNeg v1) (xA x 49 0 (Int32.toNatClampNeg v1))) 95 0 (Int32.toNatClampNeg v1) (xA x 50 0 (Int32.toNatClampNeg v1))))))) rfl ?_
      refine to_gd 2 62 (c := am_inB v1 5 = true) (pc' := 63) (a' := ([(0, am_R 32 i0), (1, am_I v1)], ([am_I (xA x 51 0 (Int32.toNatClampNeg v1)), am_I v1, am_R 96 0], (z, (sA (sA x 94 0 (Int32.toNatClampNeg v1) (xA x 49 0 (Int32.toNatClampNeg v1))) 95 0 (Int32.toNatClampNeg v1) (xA x 50 0 (Int32.toNatClampNeg v1))))))) rfl rfl (fun c_6 => ?_)
      refine to_gd 0 63 (c := am_inB v1 4 = true) (pc' := 64) (a' := ([(0, am_R 32 i0), (1, am_I v1)], ([], (z, (sA (sA (sA x 94 0 (Int32.toNatClampNeg v1) (xA x 49 0 (Int32.toNatClampNeg v1))) 95 0 (Int32.toNatClampNeg v1) (xA x 50 0 (Int32.toNatClampNeg v1))) 96 0 (Int32.toNatClampNeg v1) (xA x 51 0 (Int32.toNatClampNeg v1))))))) rfl rfl (fun c_7 => ?_)
      refine to_go 4 (pc' := 70) (a' := ([(0, am_R 32 i0), (1, am_I v1)], ([am_R 32 i0, am_I v1, am_R 97 0], (z, (sA (sA (sA x 94 0 (Int32.toNatClampNeg v1) (xA x 49 0 (Int32.toNatClampNeg v1))) 95 0 (Int32.toNatClampNeg v1) (xA x 50 0 (Int32.toNatClampNeg v1))) 96 0 (Int32.toNatClampNeg v1) (xA x 51 0 (Int32.toNatClampNeg v1))))))) rfl ?_
      refine to_gd 2 74 (c := am_inB v1 5 = true) (pc' := 75) (a' := ([(0, am_R 32 i0), (1, am_I v1)], ([am_I (xA x 52 0 (Int32.toNatClampNeg v1)), am_I v1, am_R 97 0], (z, (sA (sA (sA x 94 0 (Int32.toNatClampNeg v1) (xA x 49 0 (Int32.toNatClampNeg v1))) 95 0 (Int32.toNatClampNeg v1) (xA x 50 0 (Int32.toNatClampNeg v1))) 96 0 (Int32.toNatClampNeg v1) (xA x 51 0 (Int32.toNatClampNeg v1))))))) rfl rfl (fun c_8 => ?_)
      refine to_gd 0 75 (c := am_inB v1 4 = true) (pc' := 76) (a' := ([(0, am_R 32 i0), (1, am_I v1)], ([], (z, (sA (sA (sA (sA x 94 0 (Int32.toNatClampNeg v1) (xA x 49 0 (Int32.toNatClampNeg v1))) 95 0 (Int32.toNatClampNeg v1) (xA x 50 0 (Int32.toNatClampNeg v1))) 96 0 (Int32.toNatClampNeg v1) (xA x 51 0 (Int32.toNatClampNeg v1))) 97 0 (Int32.toNatClampNeg v1) (xA x 52 0 (Int32.toNatClampNeg v1))))))) rfl rfl (fun c_9 => ?_)
      refine to_go 4 (pc' := 82) (a' := ([(0, am_R 32 i0), (1, am_I v1)], ([am_R 32 i0, am_I v1, am_R 98 0], (z, (sA (sA (sA (sA x 94 0 (Int32.toNatClampNeg v1) (xA x 49 0 (Int32.toNatClampNeg v1))) 95 0 (Int32.toNatClampNeg v1) (xA x 50 0 (Int32.toNatClampNeg v1))) 96 0 (Int32.toNatClampNeg v1) (xA x 51 0 (Int32.toNatClampNeg v1))) 97 0 (Int32.toNatClampNeg v1) (xA x 52 0 (Int32.toNatClampNeg v1))))))) rfl ?_
      refine to_gd 2 86 (c := am_inB v1 5 = true) (pc' := 87) (a' := ([(0, am_R 32 i0), (1, am_I v1)], ([am_I (xA x 53 0 (Int32.toNatClampNeg v1)), am_I v1, am_R 98 0], (z, (sA (sA (sA (sA x 94 0 (Int32.toNatClampNeg v1) (xA x 49 0 (Int32.toNatClampNeg v1))) 95 0 (Int32.toNatClampNeg v1) (xA x 50 0 (Int32.toNatClampNeg v1))) 96 0 (Int32.toNatClampNeg v1) (xA x 51 0 (Int32.toNatClampNeg v1))) 97 0 (Int32.toNatClampNeg v1) (xA x 52 0 (Int32.toNatClampNeg v1))))))) rfl rfl (fun c_10 => ?_)
      refine to_gd 0 87 (c := am_inB v1 4 = true) (pc' := 88) (a' := ([(0, am_R 32 i0), (1, am_I v1)], ([], (z, (sA (sA (sA (sA (sA x 94 0 (Int32.toNatClampNeg v1) (xA x 49 0 (Int32.toNatClampNeg v1))) 95 0 (Int32.toNatClampNeg v1) (xA x 50 0 (Int32.toNatClampNeg v1))) 96 0 (Int32.toNatClampNeg v1) (xA x 51 0 (Int32.toNatClampNeg v1))) 97 0 (Int32.toNatClampNeg v1) (xA x 52 0 (Int32.toNatClampNeg v1))) 98 0 (Int32.toNatClampNeg v1) (xA x 53 0 (Int32.toNatClampNeg v1))))))) rfl rfl (fun c_11 => ?_)
      refine to_go 2 (pc' := 23) (a' := ([(1, am_I (v1 + (1 : Int32))), (0, am_R 32 i0)], ([], (z, (sA (sA (sA (sA (sA x 94 0 (Int32.toNatClampNeg v1) (xA x 49 0 (Int32.toNatClampNeg v1))) 95 0 (Int32.toNatClampNeg v1) (xA x 50 0 (Int32.toNatClampNeg v1))) 96 0 (Int32.toNatClampNeg v1) (xA x 51 0 (Int32.toNatClampNeg v1))) 97 0 (Int32.toNatClampNeg v1) (xA x 52 0 (Int32.toNatClampNeg v1))) 98 0 (Int32.toNatClampNeg v1) (xA x 53 0 (Int32.toNatClampNeg v1))))))) rfl ?_
      refine to_fg [1, 0] (lv' := [(0, am_R 32 i0), (1, am_I (v1 + (1 : Int32)))]) rfl ?_
      exact ih i0 (v1 + (1 : Int32)) (sA (sA (sA (sA (sA x 94 0 (Int32.toNatClampNeg v1) (xA x 49 0 (Int32.toNatClampNeg v1))) 95 0 (Int32.toNatClampNeg v1) (xA x 50 0 (Int32.toNatClampNeg v1))) 96 0 (Int32.toNatClampNeg v1) (xA x 51 0 (Int32.toNatClampNeg v1))) 97 0 (Int32.toNatClampNeg v1) (xA x 52 0 (Int32.toNatClampNeg v1))) 98 0 (Int32.toNatClampNeg v1) (xA x 53 0 (Int32.toNatClampNeg v1)))
def f_X9_image (n : Nat) (i0 : Nat) (x : am_X) : Option (Int32 × am_X) := b_X9_image_23 n n i0 (0 : Int32) (sF (sF (sF x 32 51 i0 (1 : Int32)) 32 52 i0 (xF x 32 6 i0)) 32 53 i0 (xF x 32 7 i0))
theorem t_X9_image {n : Nat} {d : Nat} {i0 : Nat} {x z : am_X} {q : Int32 × am_X} (hd : 1 ≤ d) (h : f_X9_image n i0 x = some q) : am_Ev am_PR d 174 [am_R 32 i0] (z, x) (cvI1 z q) := by
  obtain ⟨d, rfl⟩ : ∃ e, d = e + 1 := ⟨d - 1, by omega⟩
  refine to_ev (P := (am_tab pX9_image)) rfl (lv := [(0, am_R 32 i0)]) rfl ?_ q h
  unfold f_X9_image
  refine to_gk 2 2 (c := am_bz (1 : Int32) = true) (pc' := 5) (a' := ([(0, am_R 32 i0)], ([], (z, (sF x 32 51 i0 (1 : Int32)))))) rfl rfl (by decide) ?_
  refine to_go 4 (pc' := 13) (a' := ([(0, am_R 32 i0)], ([], (z, (sF (sF x 32 51 i0 (1 : Int32)) 32 52 i0 (xF x 32 6 i0)))))) rfl ?_
  refine to_go 4 (pc' := 21) (a' := ([(0, am_R 32 i0)], ([], (z, (sF (sF (sF x 32 51 i0 (1 : Int32)) 32 52 i0 (xF x 32 6 i0)) 32 53 i0 (xF x 32 7 i0)))))) rfl ?_
  refine to_go 2 (pc' := 23) (a' := ([(1, am_I (0 : Int32)), (0, am_R 32 i0)], ([], (z, (sF (sF (sF x 32 51 i0 (1 : Int32)) 32 52 i0 (xF x 32 6 i0)) 32 53 i0 (xF x 32 7 i0)))))) rfl ?_
  refine to_fg [1, 0] (lv' := [(0, am_R 32 i0), (1, am_I (0 : Int32))]) rfl ?_
  exact tb_X9_image_23 (by omega)  n i0 (0 : Int32) (sF (sF (sF x 32 51 i0 (1 : Int32)) 32 52 i0 (xF x 32 6 i0)) 32 53 i0 (xF x 32 7 i0))
def b_X9_restore_111 (n : Nat) : Nat → Nat → Int32 → am_X → Option (Int32 × am_X)
  | 0, _, _, _ => none
  | k + 1, i0, v1, x => if (48 : Int32) ≤ v1 then ((f_X9_lapseAll n i0 x).bind fun q2 => some ((xF q2 32 6 i0), q2)) else (if am_inB v1 48 = true then (if am_inB v1 60 = true then (b_X9_restore_111 n k i0 (v1 + (1 : Int32)) (sA x 54 0 (Int32.toNatClampNeg v1) (xA x 99 0 (Int32.toNatClampNeg v1)))) else none) else none)
theorem tb_X9_restore_111 {n : Nat} {d : Nat} {z : am_X} (hd : 2 ≤ d) : ∀ (k : Nat) (i0 : Nat) (v1 : Int32) (x : am_X), am_To d (am_tab pX9_restore) 111 ([(0, am_R 32 i0), (1, am_I v1)], ([], (z, x))) (cvI1 z) (b_X9_restore_111 n k i0 v1 x) := by
  intro k
  induction k with
  | zero =>
    intro i0 v1 x
    exact to_0
  | succ k ih =>
    intro i0 v1 x
    rw [b_X9_restore_111]
    refine to_if 3 (c := (48 : Int32) ≤ v1) (p1 := 135) (p2 := 117) (a' := ([(0, am_R 32 i0), (1, am_I v1)], ([], (z, x)))) rfl (fun c_1 => ?_) (fun c_1 => ?_)
    · refine to_cl 2 (lv := [(0, am_R 32 i0), (1, am_I v1)]) (st := []) (M := (z, x)) (cb := (cvV1 z)) rfl (fun q hq => t_X9_lapseAll (by omega) hq) (fun q2 => ?_)
      exact to_rt 3 (r := ((xF q2 32 6 i0), q2)) rfl
    · refine to_go 4 (pc' := 123) (a' := ([(0, am_R 32 i0), (1, am_I v1)], ([am_R 32 i0, am_I v1, am_R 54 0], (z, x)))) rfl ?_
      refine to_gd 2 127 (c := am_inB v1 48 = true) (pc' := 128) (a' := ([(0, am_R 32 i0), (1, am_I v1)], ([am_I (xA x 99 0 (Int32.toNatClampNeg v1)), am_I v1, am_R 54 0], (z, x)))) rfl rfl (fun c_3 => ?_)
      refine to_gd 0 128 (c := am_inB v1 60 = true) (pc' := 129) (a' := ([(0, am_R 32 i0), (1, am_I v1)], ([], (z, (sA x 54 0 (Int32.toNatClampNeg v1) (xA x 99 0 (Int32.toNatClampNeg v1))))))) rfl rfl (fun c_4 => ?_)
      refine to_go 2 (pc' := 111) (a' := ([(1, am_I (v1 + (1 : Int32))), (0, am_R 32 i0)], ([], (z, (sA x 54 0 (Int32.toNatClampNeg v1) (xA x 99 0 (Int32.toNatClampNeg v1))))))) rfl ?_
      refine to_fg [1, 0] (lv' := [(0, am_R 32 i0), (1, am_I (v1 + (1 : Int32)))]) rfl ?_
      exact ih i0 (v1 + (1 : Int32)) (sA x 54 0 (Int32.toNatClampNeg v1) (xA x 99 0 (Int32.toNatClampNeg v1)))
def b_X9_restore_38 (n : Nat) : Nat → Nat → Int32 → am_X → Option (Int32 × am_X)
  | 0, _, _, _ => none
  | k + 1, i0, v1, x => if (4 : Int32) ≤ v1 then (b_X9_restore_111 n n i0 (0 : Int32) x) else (if am_inB v1 4 = true then (if am_inB v1 5 = true then (if am_inB v1 4 = true then (if am_inB v1 5 = true then (if am_inB v1 4 = true then (if am_inB v1 5 = true then (if am_inB v1 4 = true then (if am_inB v1 5 = true then (if am_inB v1 4 = true then (if am_inB v1 5 = true then (b_X9_restore_38 n k i0 (v1 + (1 : Int32)) (sA (sA (sA (sA (sA x 49 0 (Int32.toNatClampNeg v1) (xA x 94 0 (Int32.toNatClampNeg v1))) 50 0 (Int32.toNatClampNeg v1) (xA x 95 0 (Int32.toNatClampNeg v1))) 51 0 (Int32.toNatClampNeg v1) (xA x 96 0 (Int32.toNatClampNeg v1))) 52 0 (Int32.toNatClampNeg v1) (xA x 97 0 (Int32.toNatClampNeg v1))) 53 0 (Int32.toNatClampNeg v1) (xA x 98 0 (Int32.toNatClampNeg v1)))) else none) else none) else none) else none) else none) else none) else none) else none) else none) else none)
theorem tb_X9_restore_38 {n : Nat} {d : Nat} {z : am_X} (hd : 2 ≤ d) : ∀ (k : Nat) (i0 : Nat) (v1 : Int32) (x : am_X), am_To d (am_tab pX9_restore) 38 ([(0, am_R 32 i0), (1, am_I v1)], ([], (z, x))) (cvI1 z) (b_X9_restore_38 n k i0 v1 x) := by
  intro k
  induction k with
  | zero =>
    intro i0 v1 x
    exact to_0
  | succ k ih =>
    intro i0 v1 x
    rw [b_X9_restore_38]
    refine to_if 3 (c := (4 : Int32) ≤ v1) (p1 := 109) (p2 := 43) (a' := ([(0, am_R 32 i0), (1, am_I v1)], ([], (z, x)))) rfl (fun c_1 => ?_) (fun c_1 => ?_)
    · refine to_go 2 (pc' := 111) (a' := ([(1, am_I (0 : Int32)), (0, am_R 32 i0)], ([], (z, x)))) rfl ?_
      refine to_fg [1, 0] (lv' := [(0, am_R 32 i0), (1, am_I (0 : Int32))]) rfl ?_
      exact tb_X9_restore_111 (by omega)  n i0 (0 : Int32) x
    · refine to_go 4 (pc' := 49) (a' := ([(0, am_R 32 i0), (1, am_I v1)], ([am_R 32 i0, am_I v1, am_R 49 0], (z, x)))) rfl ?_
      refine to_gd 2 53 (c := am_inB v1 4 = true) (pc' := 54) (a' := ([(0, am_R 32 i0), (1, am_I v1)], ([am_I (xA x 94 0 (Int32.toNatClampNeg v1)), am_I v1, am_R 49 0], (z, x)))) rfl rfl (fun c_2 => ?_)
      refine to_gd 0 54 (c := am_inB v1 5 = true) (pc' := 55) (a' := ([(0, am_R 32 i0), (1, am_I v1)], ([], (z, (sA x 49 0 (Int32.toNatClampNeg v1) (xA x 94 0 (Int32.toNatClampNeg v1))))))) rfl rfl (fun c_3 => ?_)
      refine to_go 4 (pc' := 61) (a' := ([(0, am_R 32 i0), (1, am_I v1)], ([am_R 32 i0, am_I v1, am_R 50 0], (z, (sA x 49 0 (Int32.toNatClampNeg v1) (xA x 94 0 (Int32.toNatClampNeg v1))))))) rfl ?_
      refine to_gd 2 65 (c := am_inB v1 4 = true) (pc' := 66) (a' := ([(0, am_R 32 i0), (1, am_I v1)], ([am_I (xA x 95 0 (Int32.toNatClampNeg v1)), am_I v1, am_R 50 0], (z, (sA x 49 0 (Int32.toNatClampNeg v1) (xA x 94 0 (Int32.toNatClampNeg v1))))))) rfl rfl (fun c_4 => ?_)
      refine to_gd 0 66 (c := am_inB v1 5 = true) (pc' := 67) (a' := ([(0, am_R 32 i0), (1, am_I v1)], ([], (z, (sA (sA x 49 0 (Int32.toNatClampNeg v1) (xA x 94 0 (Int32.toNatClampNeg v1))) 50 0 (Int32.toNatClampNeg v1) (xA x 95 0 (Int32.toNatClampNeg v1))))))) rfl rfl (fun c_5 => ?_)
      refine to_go 4 (pc' := 73) (a' := ([(0, am_R 32 i0), (1, am_I v1)], ([am_R 32 i0, am_I v1, am_R 51 0], (z, (sA (sA x 49 0 (Int32.toNatClampNeg v1) (xA x 94 0 (Int32.toNatClampNeg v1))) 50 0 (Int32.toNatClampNeg v1) (xA x 95 0 (Int32.toNatClampNeg v1))))))) rfl ?_
      refine to_gd 2 77 (c := am_inB v1 4 = true) (pc' := 78) (a' := ([(0, am_R 32 i0), (1, am_I v1)], ([am_I (xA x 96 0 (Int32.toNatClampNeg v1)), am_I v1, am_R 51 0], (z, (sA (sA x 49 0 (Int32.toNatClampNeg v1) (xA x 94 0 (Int32.toNatClampNeg v1))) 50 0 (Int32.toNatClampNeg v1) (xA x 95 0 (Int32.toNatClampNeg v1))))))) rfl rfl (fun c_6 => ?_)
      refine to_gd 0 78 (c := am_inB v1 5 = true) (pc' := 79) (a' := ([(0, am_R 32 i0), (1, am_I v1)], ([], (z, (sA (sA (sA x 49 0 (Int32.toNatClampNeg v1) (xA x 94 0 (Int32.toNatClampNeg v1))) 50 0 (Int32.toNatClampNeg v1) (xA x 95 0 (Int32.toNatClampNeg v1))) 51 0 (Int32.toNatClampNeg v1) (xA x 96 0 (Int32.toNatClampNeg v1))))))) rfl rfl (fun c_7 => ?_)
      refine to_go 4 (pc' := 85) (a' := ([(0, am_R 32 i0), (1, am_I v1)], ([am_R 32 i0, am_I v1, am_R 52 0], (z, (sA (sA (sA x 49 0 (Int32.toNatClampNeg v1) (xA x 94 0 (Int32.toNatClampNeg v1))) 50 0 (Int32.toNatClampNeg v1) (xA x 95 0 (Int32.toNatClampNeg v1))) 51 0 (Int32.toNatClampNeg v1) (xA x 96 0 (Int32.toNatClampNeg v1))))))) rfl ?_
      refine to_gd 2 89 (c := am_inB v1 4 = true) (pc' := 90) (a' := ([(0, am_R 32 i0), (1, am_I v1)], ([am_I (xA x 97 0 (Int32.toNatClampNeg v1)), am_I v1, am_R 52 0], (z, (sA (sA (sA x 49 0 (Int32.toNatClampNeg v1) (xA x 94 0 (Int32.toNatClampNeg v1))) 50 0 (Int32.toNatClampNeg v1) (xA x 95 0 (Int32.toNatClampNeg v1))) 51 0 (Int32.toNatClampNeg v1) (xA x 96 0 (Int32.toNatClampNeg v1))))))) rfl rfl (fun c_8 => ?_)
      refine to_gd 0 90 (c := am_inB v1 5 = true) (pc' := 91) (a' := ([(0, am_R 32 i0), (1, am_I v1)], ([], (z, (sA (sA (sA (sA x 49 0 (Int32.toNatClampNeg v1) (xA x 94 0 (Int32.toNatClampNeg v1))) 50 0 (Int32.toNatClampNeg v1) (xA x 95 0 (Int32.toNatClampNeg v1))) 51 0 (Int32.toNatClampNeg v1) (xA x 96 0 (Int32.toNatClampNeg v1))) 52 0 (Int32.toNatClampNeg v1) (xA x 97 0 (Int32.toNatClampNeg v1))))))) rfl rfl (fun c_9 => ?_)
      refine to_go 4 (pc' := 97) (a' := ([(0, am_R 32 i0), (1, am_I v1)], ([am_R 32 i0, am_I v1, am_R 53 0], (z, (sA (sA (sA (sA x 49 0 (Int32.toNatClampNeg v1) (xA x 94 0 (Int32.toNatClampNeg v1))) 50 0 (Int32.toNatClampNeg v1) (xA x 95 0 (Int32.toNatClampNeg v1))) 51 0 (Int32.toNatClampNeg v1) (xA x 96 0 (Int32.toNatClampNeg v1))) 52 0 (Int32.toNatClampNeg v1) (xA x 97 0 (Int32.toNatClampNeg v1))))))) rfl ?_
      refine to_gd 2 101 (c := am_inB v1 4 = true) (pc' := 102) (a' := ([(0, am_R 32 i0), (1, am_I v1)], ([am_I (xA x 98 0 (Int32.toNatClampNeg v1)), am_I v1, am_R 53 0], (z, (sA (sA (sA (sA x 49 0 (Int32.toNatClampNeg v1) (xA x 94 0 (Int32.toNatClampNeg v1))) 50 0 (Int32.toNatClampNeg v1) (xA x 95 0 (Int32.toNatClampNeg v1))) 51 0 (Int32.toNatClampNeg v1) (xA x 96 0 (Int32.toNatClampNeg v1))) 52 0 (Int32.toNatClampNeg v1) (xA x 97 0 (Int32.toNatClampNeg v1))))))) rfl rfl (fun c_10 => ?_)
      refine to_gd 0 102 (c := am_inB v1 5 = true) (pc' := 103) (a' := ([(0, am_R 32 i0), (1, am_I v1)], ([], (z, (sA (sA (sA (sA (sA x 49 0 (Int32.toNatClampNeg v1) (xA x 94 0 (Int32.toNatClampNeg v1))) 50 0 (Int32.toNatClampNeg v1) (xA x 95 0 (Int32.toNatClampNeg v1))) 51 0 (Int32.toNatClampNeg v1) (xA x 96 0 (Int32.toNatClampNeg v1))) 52 0 (Int32.toNatClampNeg v1) (xA x 97 0 (Int32.toNatClampNeg v1))) 53 0 (Int32.toNatClampNeg v1) (xA x 98 0 (Int32.toNatClampNeg v1))))))) rfl rfl (fun c_11 => ?_)
      refine to_go 2 (pc' := 38) (a' := ([(1, am_I (v1 + (1 : Int32))), (0, am_R 32 i0)], ([], (z, (sA (sA (sA (sA (sA x 49 0 (Int32.toNatClampNeg v1) (xA x 94 0 (Int32.toNatClampNeg v1))) 50 0 (Int32.toNatClampNeg v1) (xA x 95 0 (Int32.toNatClampNeg v1))) 51 0 (Int32.toNatClampNeg v1) (xA x 96 0 (Int32.toNatClampNeg v1))) 52 0 (Int32.toNatClampNeg v1) (xA x 97 0 (Int32.toNatClampNeg v1))) 53 0 (Int32.toNatClampNeg v1) (xA x 98 0 (Int32.toNatClampNeg v1))))))) rfl ?_
      refine to_fg [1, 0] (lv' := [(0, am_R 32 i0), (1, am_I (v1 + (1 : Int32)))]) rfl ?_
      exact ih i0 (v1 + (1 : Int32)) (sA (sA (sA (sA (sA x 49 0 (Int32.toNatClampNeg v1) (xA x 94 0 (Int32.toNatClampNeg v1))) 50 0 (Int32.toNatClampNeg v1) (xA x 95 0 (Int32.toNatClampNeg v1))) 51 0 (Int32.toNatClampNeg v1) (xA x 96 0 (Int32.toNatClampNeg v1))) 52 0 (Int32.toNatClampNeg v1) (xA x 97 0 (Int32.toNatClampNeg v1))) 53 0 (Int32.toNatClampNeg v1) (xA x 98 0 (Int32.toNatClampNeg v1)))
def f_X9_restore (n : Nat) (i0 : Nat) (x : am_X) : Option (Int32 × am_X) := if ¬ (xF x 32 51 i0) = 0 then (b_X9_restore_38 n n i0 (0 : Int32) (sF (sF (sF (sF x 32 6 i0 (xF x 32 52 i0)) 32 7 i0 (xF x 32 53 i0)) 32 32 i0 (-1 : Int32)) 32 33 i0 (0 : Int32))) else (some ((-103 : Int32), x))
theorem t_X9_restore {n : Nat} {d : Nat} {i0 : Nat} {x z : am_X} {q : Int32 × am_X} (hd : 3 ≤ d) (h : f_X9_restore n i0 x = some q) : am_Ev am_PR d 175 [am_R 32 i0] (z, x) (cvI1 z q) := by
  obtain ⟨d, rfl⟩ : ∃ e, d = e + 1 := ⟨d - 1, by omega⟩
  refine to_ev (P := (am_tab pX9_restore)) rfl (lv := [(0, am_R 32 i0)]) rfl ?_ q h
  unfold f_X9_restore
  refine to_if 3 (c := ¬ (xF x 32 51 i0) = 0) (p1 := 10) (p2 := 7) (a' := ([(0, am_R 32 i0)], ([], (z, x)))) rfl (fun c_1 => ?_) (fun c_1 => ?_)
  · refine to_go 4 (pc' := 18) (a' := ([(0, am_R 32 i0)], ([], (z, (sF x 32 6 i0 (xF x 32 52 i0)))))) rfl ?_
    refine to_go 4 (pc' := 26) (a' := ([(0, am_R 32 i0)], ([], (z, (sF (sF x 32 6 i0 (xF x 32 52 i0)) 32 7 i0 (xF x 32 53 i0)))))) rfl ?_
    refine to_go 4 (pc' := 32) (a' := ([(0, am_R 32 i0)], ([am_R 32 i0], (z, (sF (sF (sF x 32 6 i0 (xF x 32 52 i0)) 32 7 i0 (xF x 32 53 i0)) 32 32 i0 (-1 : Int32)))))) rfl ?_
    refine to_go 4 (pc' := 38) (a' := ([(1, am_I (0 : Int32)), (0, am_R 32 i0)], ([], (z, (sF (sF (sF (sF x 32 6 i0 (xF x 32 52 i0)) 32 7 i0 (xF x 32 53 i0)) 32 32 i0 (-1 : Int32)) 32 33 i0 (0 : Int32)))))) rfl ?_
    refine to_fg [1, 0] (lv' := [(0, am_R 32 i0), (1, am_I (0 : Int32))]) rfl ?_
    exact tb_X9_restore_38 (by omega)  n i0 (0 : Int32) (sF (sF (sF (sF x 32 6 i0 (xF x 32 52 i0)) 32 7 i0 (xF x 32 53 i0)) 32 32 i0 (-1 : Int32)) 32 33 i0 (0 : Int32))
  · exact to_rt 2 (r := ((-103 : Int32), x)) rfl
def b_X9_goneMany_4 (n : Nat) : Nat → Nat → Int32 → Int32 → am_X → Option (Int32 × am_X)
  | 0, _, _, _, _ => none
  | k + 1, i0, v1, v2, x => if (xF x 32 7 i0) ≤ v2 then (some (v1, x)) else (if am_inB v2 5 = true then (b_X9_goneMany_4 n k i0 (v1 + (xA x 52 0 (Int32.toNatClampNeg v2))) (v2 + (1 : Int32)) x) else none)
theorem tb_X9_goneMany_4 {n : Nat} {d : Nat} {z : am_X} (hd : 0 ≤ d) : ∀ (k : Nat) (i0 : Nat) (v1 : Int32) (v2 : Int32) (x : am_X), am_To d (am_tab pX9_goneMany) 4 ([(0, am_R 32 i0), (1, am_I v1), (2, am_I v2)], ([], (z, x))) (cvI1 z) (b_X9_goneMany_4 n k i0 v1 v2 x) := by
  intro k
  induction k with
  | zero =>
    intro i0 v1 v2 x
    exact to_0
  | succ k ih =>
    intro i0 v1 v2 x
    rw [b_X9_goneMany_4]
    refine to_if 4 (c := (xF x 32 7 i0) ≤ v2) (p1 := 27) (p2 := 12) (a' := ([(0, am_R 32 i0), (1, am_I v1), (2, am_I v2)], ([], (z, x)))) rfl (fun c_1 => ?_) (fun c_1 => ?_)
    · exact to_rt 2 (r := (v1, x)) rfl
    · refine to_go 4 (pc' := 18) (a' := ([(0, am_R 32 i0), (1, am_I v1), (2, am_I v2)], ([am_I v2, am_R 52 0, am_I v1], (z, x)))) rfl ?_
      refine to_gd 0 18 (c := am_inB v2 5 = true) (pc' := 19) (a' := ([(0, am_R 32 i0), (1, am_I v1), (2, am_I v2)], ([am_I (xA x 52 0 (Int32.toNatClampNeg v2)), am_I v1], (z, x)))) rfl rfl (fun c_2 => ?_)
      refine to_go 4 (pc' := 4) (a' := ([(2, am_I (v2 + (1 : Int32))), (1, am_I (v1 + (xA x 52 0 (Int32.toNatClampNeg v2)))), (0, am_R 32 i0)], ([], (z, x)))) rfl ?_
      refine to_fg [2, 1, 0] (lv' := [(0, am_R 32 i0), (1, am_I (v1 + (xA x 52 0 (Int32.toNatClampNeg v2)))), (2, am_I (v2 + (1 : Int32)))]) rfl ?_
      exact ih i0 (v1 + (xA x 52 0 (Int32.toNatClampNeg v2))) (v2 + (1 : Int32)) x
def f_X9_goneMany (n : Nat) (i0 : Nat) (x : am_X) : Option (Int32 × am_X) := b_X9_goneMany_4 n n i0 (0 : Int32) (0 : Int32) x
theorem t_X9_goneMany {n : Nat} {d : Nat} {i0 : Nat} {x z : am_X} {q : Int32 × am_X} (hd : 1 ≤ d) (h : f_X9_goneMany n i0 x = some q) : am_Ev am_PR d 176 [am_R 32 i0] (z, x) (cvI1 z q) := by
  obtain ⟨d, rfl⟩ : ∃ e, d = e + 1 := ⟨d - 1, by omega⟩
  refine to_ev (P := (am_tab pX9_goneMany)) rfl (lv := [(0, am_R 32 i0)]) rfl ?_ q h
  unfold f_X9_goneMany
  refine to_go 4 (pc' := 4) (a' := ([(2, am_I (0 : Int32)), (1, am_I (0 : Int32)), (0, am_R 32 i0)], ([], (z, x)))) rfl ?_
  refine to_fg [2, 1, 0] (lv' := [(0, am_R 32 i0), (1, am_I (0 : Int32)), (2, am_I (0 : Int32))]) rfl ?_
  exact tb_X9_goneMany_4 (by omega)  n i0 (0 : Int32) (0 : Int32) x
def b_X9_creditsAll_4 (n : Nat) : Nat → Nat → Int32 → Int32 → am_X → Option (Int32 × am_X)
  | 0, _, _, _, _ => none
  | k + 1, i0, v1, v2, x => if (xF x 32 7 i0) ≤ v2 then (some (v1, x)) else (if am_inB v2 5 = true then (b_X9_creditsAll_4 n k i0 (v1 + (xA x 53 0 (Int32.toNatClampNeg v2))) (v2 + (1 : Int32)) x) else none)
theorem tb_X9_creditsAll_4 {n : Nat} {d : Nat} {z : am_X} (hd : 0 ≤ d) : ∀ (k : Nat) (i0 : Nat) (v1 : Int32) (v2 : Int32) (x : am_X), am_To d (am_tab pX9_creditsAll) 4 ([(0, am_R 32 i0), (1, am_I v1), (2, am_I v2)], ([], (z, x))) (cvI1 z) (b_X9_creditsAll_4 n k i0 v1 v2 x) := by
  intro k
  induction k with
  | zero =>
    intro i0 v1 v2 x
    exact to_0
  | succ k ih =>
    intro i0 v1 v2 x
    rw [b_X9_creditsAll_4]
    refine to_if 4 (c := (xF x 32 7 i0) ≤ v2) (p1 := 27) (p2 := 12) (a' := ([(0, am_R 32 i0), (1, am_I v1), (2, am_I v2)], ([], (z, x)))) rfl (fun c_1 => ?_) (fun c_1 => ?_)
    · exact to_rt 2 (r := (v1, x)) rfl
    · refine to_go 4 (pc' := 18) (a' := ([(0, am_R 32 i0), (1, am_I v1), (2, am_I v2)], ([am_I v2, am_R 53 0, am_I v1], (z, x)))) rfl ?_
      refine to_gd 0 18 (c := am_inB v2 5 = true) (pc' := 19) (a' := ([(0, am_R 32 i0), (1, am_I v1), (2, am_I v2)], ([am_I (xA x 53 0 (Int32.toNatClampNeg v2)), am_I v1], (z, x)))) rfl rfl (fun c_2 => ?_)
      refine to_go 4 (pc' := 4) (a' := ([(2, am_I (v2 + (1 : Int32))), (1, am_I (v1 + (xA x 53 0 (Int32.toNatClampNeg v2)))), (0, am_R 32 i0)], ([], (z, x)))) rfl ?_
      refine to_fg [2, 1, 0] (lv' := [(0, am_R 32 i0), (1, am_I (v1 + (xA x 53 0 (Int32.toNatClampNeg v2)))), (2, am_I (v2 + (1 : Int32)))]) rfl ?_
      exact ih i0 (v1 + (xA x 53 0 (Int32.toNatClampNeg v2))) (v2 + (1 : Int32)) x
def f_X9_creditsAll (n : Nat) (i0 : Nat) (x : am_X) : Option (Int32 × am_X) := b_X9_creditsAll_4 n n i0 (0 : Int32) (0 : Int32) x
theorem t_X9_creditsAll {n : Nat} {d : Nat} {i0 : Nat} {x z : am_X} {q : Int32 × am_X} (hd : 1 ≤ d) (h : f_X9_creditsAll n i0 x = some q) : am_Ev am_PR d 177 [am_R 32 i0] (z, x) (cvI1 z q) := by
  obtain ⟨d, rfl⟩ : ∃ e, d = e + 1 := ⟨d - 1, by omega⟩
  refine to_ev (P := (am_tab pX9_creditsAll)) rfl (lv := [(0, am_R 32 i0)]) rfl ?_ q h
  unfold f_X9_creditsAll
  refine to_go 4 (pc' := 4) (a' := ([(2, am_I (0 : Int32)), (1, am_I (0 : Int32)), (0, am_R 32 i0)], ([], (z, x)))) rfl ?_
  refine to_fg [2, 1, 0] (lv' := [(0, am_R 32 i0), (1, am_I (0 : Int32)), (2, am_I (0 : Int32))]) rfl ?_
  exact tb_X9_creditsAll_4 (by omega)  n i0 (0 : Int32) (0 : Int32) x
def f_X9_howMany (n : Nat) (i0 : Nat) (v1 : Int32) (x : am_X) : Option (Int32 × am_X) := if v1 = (0 : Int32) then (some ((xF x 32 2 i0), x)) else if v1 = (1 : Int32) then (some ((xF x 32 7 i0), x)) else if v1 = (2 : Int32) then ((f_X9_goneMany n i0 x).bind fun q4 => some (q4.1, q4.2)) else if v1 = (3 : Int32) then (some ((xF x 32 6 i0), x)) else if v1 = (4 : Int32) then ((f_X9_owesAll n i0 x).bind fun q7 => some (q7.1, q7.2)) else if v1 = (5 : Int32) then ((f_X9_gotAll n i0 x).bind fun q9 => some (q9.1, q9.2)) else if v1 = (6 : Int32) then ((f_X9_creditsAll n i0 x).bind fun q11 => some (q11.1, q11.2)) else if v1 = (7 : Int32) then (some ((xF x 32 33 i0), x)) else if v1 = (8 : Int32) then (some ((xF x 32 16 i0), x)) else if v1 = (9 : Int32) then (some ((xF x 32 1 i0), x)) else if v1 = (10 : Int32) then (some ((xF x 32 15 i0), x)) else if v1 = (11 : Int32) then (some ((xF x 32 35 i0), x)) else (some ((-102 : Int32), x))
theorem t_X9_howMany {n : Nat} {d : Nat} {i0 : Nat} {v1 : Int32} {x z : am_X} {q : Int32 × am_X} (hd : 2 ≤ d) (h : f_X9_howMany n i0 v1 x = some q) : am_Ev am_PR d 178 [am_R 32 i0, am_I v1] (z, x) (cvI1 z q) := by
  obtain ⟨d, rfl⟩ : ∃ e, d = e + 1 := ⟨d - 1, by omega⟩
  refine to_ev (P := (am_tab pX9_howMany)) rfl (lv := [(0, am_R 32 i0), (1, am_I v1)]) rfl ?_ q h
  unfold f_X9_howMany
  refine to_si 2 (x := v1) (c := (0 : Int32)) (t := 64) (a' := ([(0, am_R 32 i0), (1, am_I v1)], ([], (z, x)))) rfl (by decide) (fun c_1 => ?_) (fun c_1 => ?_)
  · exact to_rt 3 (r := ((xF x 32 2 i0), x)) rfl
  refine to_si 2 (x := v1) (c := (1 : Int32)) (t := 69) (a' := ([(0, am_R 32 i0), (1, am_I v1)], ([], (z, x)))) rfl (by decide) (fun c_2 => ?_) (fun c_2 => ?_)
  · exact to_rt 3 (r := ((xF x 32 7 i0), x)) rfl
  refine to_si 2 (x := v1) (c := (2 : Int32)) (t := 74) (a' := ([(0, am_R 32 i0), (1, am_I v1)], ([], (z, x)))) rfl (by decide) (fun c_3 => ?_) (fun c_3 => ?_)
  · refine to_cl 2 (lv := [(0, am_R 32 i0), (1, am_I v1)]) (st := []) (M := (z, x)) (cb := (cvI1 z)) rfl (fun q hq => t_X9_goneMany (by omega) hq) (fun q4 => ?_)
    exact to_rt 1 (r := (q4.1, q4.2)) rfl
  refine to_si 2 (x := v1) (c := (3 : Int32)) (t := 79) (a' := ([(0, am_R 32 i0), (1, am_I v1)], ([], (z, x)))) rfl (by decide) (fun c_5 => ?_) (fun c_5 => ?_)
  · exact to_rt 3 (r := ((xF x 32 6 i0), x)) rfl
  refine to_si 2 (x := v1) (c := (4 : Int32)) (t := 84) (a' := ([(0, am_R 32 i0), (1, am_I v1)], ([], (z, x)))) rfl (by decide) (fun c_6 => ?_) (fun c_6 => ?_)
  · refine to_cl 2 (lv := [(0, am_R 32 i0), (1, am_I v1)]) (st := []) (M := (z, x)) (cb := (cvI1 z)) rfl (fun q hq => t_X9_owesAll (by omega) hq) (fun q7 => ?_)
    exact to_rt 1 (r := (q7.1, q7.2)) rfl
  refine to_si 2 (x := v1) (c := (5 : Int32)) (t := 89) (a' := ([(0, am_R 32 i0), (1, am_I v1)], ([], (z, x)))) rfl (by decide) (fun c_8 => ?_) (fun c_8 => ?_)
  · refine to_cl 2 (lv := [(0, am_R 32 i0), (1, am_I v1)]) (st := []) (M := (z, x)) (cb := (cvI1 z)) rfl (fun q hq => t_X9_gotAll (by omega) hq) (fun q9 => ?_)
    exact to_rt 1 (r := (q9.1, q9.2)) rfl
  refine to_si 2 (x := v1) (c := (6 : Int32)) (t := 94) (a' := ([(0, am_R 32 i0), (1, am_I v1)], ([], (z, x)))) rfl (by decide) (fun c_10 => ?_) (fun c_10 => ?_)
  · refine to_cl 2 (lv := [(0, am_R 32 i0), (1, am_I v1)]) (st := []) (M := (z, x)) (cb := (cvI1 z)) rfl (fun q hq => t_X9_creditsAll (by omega) hq) (fun q11 => ?_)
    exact to_rt 1 (r := (q11.1, q11.2)) rfl
  refine to_si 2 (x := v1) (c := (7 : Int32)) (t := 99) (a' := ([(0, am_R 32 i0), (1, am_I v1)], ([], (z, x)))) rfl (by decide) (fun c_12 => ?_) (fun c_12 => ?_)
  · exact to_rt 3 (r := ((xF x 32 33 i0), x)) rfl
  refine to_si 2 (x := v1) (c := (8 : Int32)) (t := 104) (a' := ([(0, am_R 32 i0), (1, am_I v1)], ([], (z, x)))) rfl (by decide) (fun c_13 => ?_) (fun c_13 => ?_)
  · exact to_rt 3 (r := ((xF x 32 16 i0), x)) rfl
  refine to_si 2 (x := v1) (c := (9 : Int32)) (t := 109) (a' := ([(0, am_R 32 i0), (1, am_I v1)], ([], (z, x)))) rfl (by decide) (fun c_14 => ?_) (fun c_14 => ?_)
  · exact to_rt 3 (r := ((xF x 32 1 i0), x)) rfl
  refine to_si 2 (x := v1) (c := (10 : Int32)) (t := 114) (a' := ([(0, am_R 32 i0), (1, am_I v1)], ([], (z, x)))) rfl (by decide) (fun c_15 => ?_) (fun c_15 => ?_)
  · exact to_rt 3 (r := ((xF x 32 15 i0), x)) rfl
  refine to_si 2 (x := v1) (c := (11 : Int32)) (t := 119) (a' := ([(0, am_R 32 i0), (1, am_I v1)], ([], (z, x)))) rfl (by decide) (fun c_16 => ?_) (fun c_16 => ?_)
  · exact to_rt 3 (r := ((xF x 32 35 i0), x)) rfl
  refine to_sd 2 (x := v1) (cs := [0, 1, 2, 3, 4, 5, 6, 7, 8, 9, 10, 11]) (a' := ([(0, am_R 32 i0), (1, am_I v1)], ([], (z, x)))) rfl (by decide) (List.forall_mem_cons.mpr ⟨c_1, List.forall_mem_cons.mpr ⟨c_2, List.forall_mem_cons.mpr ⟨c_3, List.forall_mem_cons.mpr ⟨c_5, List.forall_mem_cons.mpr ⟨c_6, List.forall_mem_cons.mpr ⟨c_8, List.forall_mem_cons.mpr ⟨c_10, List.forall_mem_cons.mpr ⟨c_12, List.forall_mem_cons.mpr ⟨c_13, List.forall_mem_cons.mpr ⟨c_14, List.forall_mem_cons.mpr ⟨c_15, List.forall_mem_cons.mpr ⟨c_16, fun _ h => absurd h List.not_mem_nil⟩⟩⟩⟩⟩⟩⟩⟩⟩⟩⟩⟩) ?_
  exact to_rt 2 (r := ((-102 : Int32), x)) rfl
def f_X9_count (n : Nat) (i0 : Nat) (v1 : Int32) (x : am_X) : Option (Int32 × am_X) := (f_X9_howMany n i0 v1 x).bind fun q1 => some (q1.1, q1.2)
theorem t_X9_count {n : Nat} {d : Nat} {i0 : Nat} {v1 : Int32} {x z : am_X} {q : Int32 × am_X} (hd : 3 ≤ d) (h : f_X9_count n i0 v1 x = some q) : am_Ev am_PR d 179 [am_R 32 i0, am_I v1] (z, x) (cvI1 z q) := by
  obtain ⟨d, rfl⟩ : ∃ e, d = e + 1 := ⟨d - 1, by omega⟩
  refine to_ev (P := (am_tab pX9_count)) rfl (lv := [(0, am_R 32 i0), (1, am_I v1)]) rfl ?_ q h
  unfold f_X9_count
  refine to_cl 3 (lv := [(0, am_R 32 i0), (1, am_I v1)]) (st := []) (M := (z, x)) (cb := (cvI1 z)) rfl (fun q hq => t_X9_howMany (by omega) hq) (fun q1 => ?_)
  exact to_rt 1 (r := (q1.1, q1.2)) rfl
def f_X9_mix (n : Nat) (i0 : Nat) (v1 : Int64) (x : am_X) : Option (am_X) := some (sL x 60 (((31 : Int64) * (xL x 60)) + v1))
theorem t_X9_mix {n : Nat} {d : Nat} {i0 : Nat} {v1 : Int64} {x z : am_X} {q : am_X} (hd : 1 ≤ d) (h : f_X9_mix n i0 v1 x = some q) : am_Ev am_PR d 180 [am_R 32 i0, am_J v1] (z, x) (cvV1 z q) := by
  obtain ⟨d, rfl⟩ : ∃ e, d = e + 1 := ⟨d - 1, by omega⟩
  refine to_ev (P := (am_tab pX9_mix)) rfl (lv := [(0, am_R 32 i0), (1, am_J v1)]) rfl ?_ q h
  unfold f_X9_mix
  refine to_go 4 (pc' := 8) (a' := ([(0, am_R 32 i0), (1, am_J v1)], ([am_J (xL x 60), am_J (31 : Int64), am_R 32 i0], (z, x)))) rfl ?_
  refine to_go 4 (pc' := 14) (a' := ([(0, am_R 32 i0), (1, am_J v1)], ([], (z, (sL x 60 (((31 : Int64) * (xL x 60)) + v1)))))) rfl ?_
  exact to_rt 1 rfl
def b_X9_digest_23 (n : Nat) (h9 : Nat → Int32 → am_X → Option (Int64 × am_X)) : Nat → Nat → Int32 → Int32 → am_X → Option (Int64 × am_X)
  | 0, _, _, _, _ => none
  | k + 1, i0, v1, v2, x => if (3 : Int32) ≤ v2 then ((f_X9_keptNow n i0 v1 x).bind fun q2 => (f_X9_mix n i0 (Int32.toInt64 q2.1) q2.2).bind fun q3 => h9 i0 (v1 + (1 : Int32)) q3) else ((f_X9_deedNow n i0 v1 v2 x).bind fun q4 => (f_X9_mix n i0 (Int32.toInt64 q4.1) q4.2).bind fun q5 => b_X9_digest_23 n h9 k i0 v1 (v2 + (1 : Int32)) q5)
theorem tb_X9_digest_23 {n : Nat} {h9 : Nat → Int32 → am_X → Option (Int64 × am_X)} {d : Nat} {z : am_X} (hd : 7 ≤ d) (hh9 : ∀ (i0 : Nat) (v1 : Int32) (x : am_X), am_To d (am_tab pX9_digest) 9 ([(0, am_R 32 i0), (1, am_I v1)], ([], (z, x))) (cvJ1 z) (h9 i0 v1 x)) : ∀ (k : Nat) (i0 : Nat) (v1 : Int32) (v2 : Int32) (x : am_X), am_To d (am_tab pX9_digest) 23 ([(0, am_R 32 i0), (1, am_I v1), (2, am_I v2)], ([], (z, x))) (cvJ1 z) (b_X9_digest_23 n h9 k i0 v1 v2 x) := by
  intro k
  induction k with
  | zero =>
    intro i0 v1 v2 x
    exact to_0
  | succ k ih =>
    intro i0 v1 v2 x
    rw [b_X9_digest_23]
    refine to_if 3 (c := (3 : Int32) ≤ v2) (p1 := 45) (p2 := 28) (a' := ([(0, am_R 32 i0), (1, am_I v1), (2, am_I v2)], ([], (z, x)))) rfl (fun c_1 => ?_) (fun c_1 => ?_)
    · refine to_cl 4 (lv := [(0, am_R 32 i0), (1, am_I v1), (2, am_I v2)]) (st := [am_R 32 i0]) (M := (z, x)) (cb := (cvI1 z)) rfl (fun q hq => t_X9_keptNow (by omega) hq) (fun q2 => ?_)
      refine to_cl 2 (lv := [(0, am_R 32 i0), (1, am_I v1), (2, am_I v2)]) (st := []) (M := (z, q2.2)) (cb := (cvV1 z)) rfl (fun q hq => t_X9_mix (by omega) hq) (fun q3 => ?_)
      refine to_go 2 (pc' := 9) (a' := ([(1, am_I (v1 + (1 : Int32))), (0, am_R 32 i0), (2, am_I v2)], ([], (z, q3)))) rfl ?_
      refine to_fg [1, 0] (lv' := [(0, am_R 32 i0), (1, am_I (v1 + (1 : Int32)))]) rfl ?_
      exact hh9 i0 (v1 + (1 : Int32)) q3
    · refine to_go 4 (pc' := 32) (a' := ([(0, am_R 32 i0), (1, am_I v1), (2, am_I v2)], ([am_I v2, am_I v1, am_R 32 i0, am_R 32 i0], (z, x)))) rfl ?_
      refine to_cl 1 (lv := [(0, am_R 32 i0), (1, am_I v1), (2, am_I v2)]) (st := [am_R 32 i0]) (M := (z, x)) (cb := (cvI1 z)) rfl (fun q hq => t_X9_deedNow (by omega) hq) (fun q4 => ?_)
      refine to_cl 2 (lv := [(0, am_R 32 i0), (1, am_I v1), (2, am_I v2)]) (st := []) (M := (z, q4.2)) (cb := (cvV1 z)) rfl (fun q hq => t_X9_mix (by omega) hq) (fun q5 => ?_)
      refine to_go 2 (pc' := 23) (a' := ([(2, am_I (v2 + (1 : Int32))), (0, am_R 32 i0), (1, am_I v1)], ([], (z, q5)))) rfl ?_
      refine to_fg [1, 2, 0] (lv' := [(0, am_R 32 i0), (1, am_I v1), (2, am_I (v2 + (1 : Int32)))]) rfl ?_
      exact ih i0 v1 (v2 + (1 : Int32)) q5
def b_X9_digest_129 (n : Nat) (h63 : Nat → Int32 → am_X → Option (Int64 × am_X)) (i0 : Nat) (v1 : Int32) (x : am_X) : Option (Int64 × am_X) := h63 i0 (v1 + (1 : Int32)) x
theorem tb_X9_digest_129 {n : Nat} {h63 : Nat → Int32 → am_X → Option (Int64 × am_X)} {d : Nat} {z : am_X} (hd : 7 ≤ d) (hh63 : ∀ (i0 : Nat) (v1 : Int32) (x : am_X), am_To d (am_tab pX9_digest) 63 ([(0, am_R 32 i0), (1, am_I v1)], ([], (z, x))) (cvJ1 z) (h63 i0 v1 x)) (i0 : Nat) (v1 : Int32) (x : am_X) : am_To d (am_tab pX9_digest) 129 ([(0, am_R 32 i0), (1, am_I v1)], ([], (z, x))) (cvJ1 z) (b_X9_digest_129 n h63 i0 v1 x) := by
  unfold b_X9_digest_129
  refine to_go 2 (pc' := 63) (a' := ([(1, am_I (v1 + (1 : Int32))), (0, am_R 32 i0)], ([], (z, x)))) rfl ?_
  refine to_fg [1, 0] (lv' := [(0, am_R 32 i0), (1, am_I (v1 + (1 : Int32)))]) rfl ?_
  exact hh63 i0 (v1 + (1 : Int32)) x
def b_X9_digest_98 (n : Nat) (h63 : Nat → Int32 → am_X → Option (Int64 × am_X)) : Nat → Nat → Int32 → Int32 → am_X → Option (Int64 × am_X)
  | 0, _, _, _, _ => none
  | k + 1, i0, v1, v2, x => if (4 : Int32) ≤ v2 then (b_X9_digest_129 n h63 i0 v1 x) else (if am_inB v1 5 = true then (if ¬ (xA x 52 0 (Int32.toNatClampNeg v1)) = 0 then (b_X9_digest_129 n h63 i0 v1 x) else ((f_X9_soonTold n i0 v1 v2 x).bind fun q4 => (f_X9_mix n i0 (Int32.toInt64 q4.1) q4.2).bind fun q5 => b_X9_digest_98 n h63 k i0 v1 (v2 + (1 : Int32)) q5)) else none)
theorem tb_X9_digest_98 {n : Nat} {h63 : Nat → Int32 → am_X → Option (Int64 × am_X)} {d : Nat} {z : am_X} (hd : 7 ≤ d) (hh63 : ∀ (i0 : Nat) (v1 : Int32) (x : am_X), am_To d (am_tab pX9_digest) 63 ([(0, am_R 32 i0), (1, am_I v1)], ([], (z, x))) (cvJ1 z) (h63 i0 v1 x)) : ∀ (k : Nat) (i0 : Nat) (v1 : Int32) (v2 : Int32) (x : am_X), am_To d (am_tab pX9_digest) 98 ([(0, am_R 32 i0), (1, am_I v1), (2, am_I v2)], ([], (z, x))) (cvJ1 z) (b_X9_digest_98 n h63 k i0 v1 v2 x) := by
  intro k
  induction k with
  | zero =>
    intro i0 v1 v2 x
    exact to_0
  | succ k ih =>
    intro i0 v1 v2 x
    rw [b_X9_digest_98]
    refine to_if 3 (c := (4 : Int32) ≤ v2) (p1 := 129) (p2 := 103) (a' := ([(0, am_R 32 i0), (1, am_I v1), (2, am_I v2)], ([], (z, x)))) rfl (fun c_1 => ?_) (fun c_1 => ?_)
    · refine to_fg [0, 1] (lv' := [(0, am_R 32 i0), (1, am_I v1)]) rfl ?_
      exact tb_X9_digest_129 (by omega) hh63  i0 v1 x
    · refine to_gd 3 108 (c := am_inB v1 5 = true) (pc' := 109) (a' := ([(0, am_R 32 i0), (1, am_I v1), (2, am_I v2)], ([am_I (xA x 52 0 (Int32.toNatClampNeg v1))], (z, x)))) rfl rfl (fun c_2 => ?_)
      refine to_if 1 (c := ¬ (xA x 52 0 (Int32.toNatClampNeg v1)) = 0) (p1 := 129) (p2 := 112) (a' := ([(0, am_R 32 i0), (1, am_I v1), (2, am_I v2)], ([], (z, x)))) rfl (fun c_3 => ?_) (fun c_3 => ?_)
      · refine to_fg [0, 1] (lv' := [(0, am_R 32 i0), (1, am_I v1)]) rfl ?_
        exact tb_X9_digest_129 (by omega) hh63  i0 v1 x
      · refine to_go 4 (pc' := 116) (a' := ([(0, am_R 32 i0), (1, am_I v1), (2, am_I v2)], ([am_I v2, am_I v1, am_R 32 i0, am_R 32 i0], (z, x)))) rfl ?_
        refine to_cl 1 (lv := [(0, am_R 32 i0), (1, am_I v1), (2, am_I v2)]) (st := [am_R 32 i0]) (M := (z, x)) (cb := (cvI1 z)) rfl (fun q hq => t_X9_soonTold (by omega) hq) (fun q4 => ?_)
        refine to_cl 2 (lv := [(0, am_R 32 i0), (1, am_I v1), (2, am_I v2)]) (st := []) (M := (z, q4.2)) (cb := (cvV1 z)) rfl (fun q hq => t_X9_mix (by omega) hq) (fun q5 => ?_)
        refine to_go 2 (pc' := 98) (a' := ([(2, am_I (v2 + (1 : Int32))), (0, am_R 32 i0), (1, am_I v1)], ([], (z, q5)))) rfl ?_
        refine to_fg [1, 2, 0] (lv' := [(0, am_R 32 i0), (1, am_I v1), (2, am_I (v2 + (1 : Int32)))]) rfl ?_
        exact ih i0 v1 (v2 + (1 : Int32)) q5
def b_X9_digest_73 (n : Nat) (h63 : Nat → Int32 → am_X → Option (Int64 × am_X)) : Nat → Nat → Int32 → Int32 → am_X → Option (Int64 × am_X)
  | 0, _, _, _, _ => none
  | k + 1, i0, v1, v2, x => if (10 : Int32) ≤ v2 then (b_X9_digest_98 n h63 n i0 v1 (0 : Int32) x) else ((f_X9_personNow n i0 v1 v2 x).bind fun q2 => (f_X9_mix n i0 (Int32.toInt64 q2.1) q2.2).bind fun q3 => b_X9_digest_73 n h63 k i0 v1 (v2 + (1 : Int32)) q3)
theorem tb_X9_digest_73 {n : Nat} {h63 : Nat → Int32 → am_X → Option (Int64 × am_X)} {d : Nat} {z : am_X} (hd : 7 ≤ d) (hh63 : ∀ (i0 : Nat) (v1 : Int32) (x : am_X), am_To d (am_tab pX9_digest) 63 ([(0, am_R 32 i0), (1, am_I v1)], ([], (z, x))) (cvJ1 z) (h63 i0 v1 x)) : ∀ (k : Nat) (i0 : Nat) (v1 : Int32) (v2 : Int32) (x : am_X), am_To d (am_tab pX9_digest) 73 ([(0, am_R 32 i0), (1, am_I v1), (2, am_I v2)], ([], (z, x))) (cvJ1 z) (b_X9_digest_73 n h63 k i0 v1 v2 x) := by
  intro k
  induction k with
  | zero =>
    intro i0 v1 v2 x
    exact to_0
  | succ k ih =>
    intro i0 v1 v2 x
    rw [b_X9_digest_73]
    refine to_if 3 (c := (10 : Int32) ≤ v2) (p1 := 96) (p2 := 79) (a' := ([(0, am_R 32 i0), (1, am_I v1), (2, am_I v2)], ([], (z, x)))) rfl (fun c_1 => ?_) (fun c_1 => ?_)
    · refine to_go 2 (pc' := 98) (a' := ([(2, am_I (0 : Int32)), (0, am_R 32 i0), (1, am_I v1)], ([], (z, x)))) rfl ?_
      refine to_fg [1, 2, 0] (lv' := [(0, am_R 32 i0), (1, am_I v1), (2, am_I (0 : Int32))]) rfl ?_
      exact tb_X9_digest_98 (by omega) hh63  n i0 v1 (0 : Int32) x
    · refine to_go 4 (pc' := 83) (a' := ([(0, am_R 32 i0), (1, am_I v1), (2, am_I v2)], ([am_I v2, am_I v1, am_R 32 i0, am_R 32 i0], (z, x)))) rfl ?_
      refine to_cl 1 (lv := [(0, am_R 32 i0), (1, am_I v1), (2, am_I v2)]) (st := [am_R 32 i0]) (M := (z, x)) (cb := (cvI1 z)) rfl (fun q hq => t_X9_personNow (by omega) hq) (fun q2 => ?_)
      refine to_cl 2 (lv := [(0, am_R 32 i0), (1, am_I v1), (2, am_I v2)]) (st := []) (M := (z, q2.2)) (cb := (cvV1 z)) rfl (fun q hq => t_X9_mix (by omega) hq) (fun q3 => ?_)
      refine to_go 2 (pc' := 73) (a' := ([(2, am_I (v2 + (1 : Int32))), (0, am_R 32 i0), (1, am_I v1)], ([], (z, q3)))) rfl ?_
      refine to_fg [1, 2, 0] (lv' := [(0, am_R 32 i0), (1, am_I v1), (2, am_I (v2 + (1 : Int32)))]) rfl ?_
      exact ih i0 v1 (v2 + (1 : Int32)) q3
def b_X9_digest_164 (n : Nat) : Nat → Nat → Int32 → am_X → Option (Int64 × am_X)
  | 0, _, _, _ => none
  | k + 1, i0, v1, x => if (12 : Int32) ≤ v1 then (some ((xL x 60), x)) else ((f_X9_howMany n i0 v1 x).bind fun q2 => (f_X9_mix n i0 (Int32.toInt64 q2.1) q2.2).bind fun q3 => b_X9_digest_164 n k i0 (v1 + (1 : Int32)) q3)
theorem tb_X9_digest_164 {n : Nat} {d : Nat} {z : am_X} (hd : 7 ≤ d) : ∀ (k : Nat) (i0 : Nat) (v1 : Int32) (x : am_X), am_To d (am_tab pX9_digest) 164 ([(0, am_R 32 i0), (1, am_I v1)], ([], (z, x))) (cvJ1 z) (b_X9_digest_164 n k i0 v1 x) := by
  intro k
  induction k with
  | zero =>
    intro i0 v1 x
    exact to_0
  | succ k ih =>
    intro i0 v1 x
    rw [b_X9_digest_164]
    refine to_if 3 (c := (12 : Int32) ≤ v1) (p1 := 186) (p2 := 170) (a' := ([(0, am_R 32 i0), (1, am_I v1)], ([], (z, x)))) rfl (fun c_1 => ?_) (fun c_1 => ?_)
    · exact to_rt 3 (r := ((xL x 60), x)) rfl
    · refine to_cl 4 (lv := [(0, am_R 32 i0), (1, am_I v1)]) (st := [am_R 32 i0]) (M := (z, x)) (cb := (cvI1 z)) rfl (fun q hq => t_X9_howMany (by omega) hq) (fun q2 => ?_)
      refine to_cl 2 (lv := [(0, am_R 32 i0), (1, am_I v1)]) (st := []) (M := (z, q2.2)) (cb := (cvV1 z)) rfl (fun q hq => t_X9_mix (by omega) hq) (fun q3 => ?_)
      refine to_go 2 (pc' := 164) (a' := ([(1, am_I (v1 + (1 : Int32))), (0, am_R 32 i0)], ([], (z, q3)))) rfl ?_
      refine to_fg [1, 0] (lv' := [(0, am_R 32 i0), (1, am_I (v1 + (1 : Int32)))]) rfl ?_
      exact ih i0 (v1 + (1 : Int32)) q3
def b_X9_digest_137 (n : Nat) : Nat → Nat → Int32 → am_X → Option (Int64 × am_X)
  | 0, _, _, _ => none
  | k + 1, i0, v1, x => if (xF x 32 16 i0) ≤ v1 then (b_X9_digest_164 n n i0 (0 : Int32) x) else (if am_inB v1 30 = true then ((f_X9_mix n i0 (Int32.toInt64 (xA x 57 0 (Int32.toNatClampNeg v1))) x).bind fun q3 => b_X9_digest_137 n k i0 (v1 + (1 : Int32)) q3) else none)
theorem tb_X9_digest_137 {n : Nat} {d : Nat} {z : am_X} (hd : 7 ≤ d) : ∀ (k : Nat) (i0 : Nat) (v1 : Int32) (x : am_X), am_To d (am_tab pX9_digest) 137 ([(0, am_R 32 i0), (1, am_I v1)], ([], (z, x))) (cvJ1 z) (b_X9_digest_137 n k i0 v1 x) := by
  intro k
  induction k with
  | zero =>
    intro i0 v1 x
    exact to_0
  | succ k ih =>
    intro i0 v1 x
    rw [b_X9_digest_137]
    refine to_if 4 (c := (xF x 32 16 i0) ≤ v1) (p1 := 162) (p2 := 145) (a' := ([(0, am_R 32 i0), (1, am_I v1)], ([], (z, x)))) rfl (fun c_1 => ?_) (fun c_1 => ?_)
    · refine to_go 2 (pc' := 164) (a' := ([(1, am_I (0 : Int32)), (0, am_R 32 i0)], ([], (z, x)))) rfl ?_
      refine to_fg [1, 0] (lv' := [(0, am_R 32 i0), (1, am_I (0 : Int32))]) rfl ?_
      exact tb_X9_digest_164 (by omega)  n i0 (0 : Int32) x
    · refine to_go 4 (pc' := 151) (a' := ([(0, am_R 32 i0), (1, am_I v1)], ([am_I v1, am_R 57 0, am_R 32 i0], (z, x)))) rfl ?_
      refine to_gd 0 151 (c := am_inB v1 30 = true) (pc' := 152) (a' := ([(0, am_R 32 i0), (1, am_I v1)], ([am_I (xA x 57 0 (Int32.toNatClampNeg v1)), am_R 32 i0], (z, x)))) rfl rfl (fun c_2 => ?_)
      refine to_cl 2 (lv := [(0, am_R 32 i0), (1, am_I v1)]) (st := []) (M := (z, x)) (cb := (cvV1 z)) rfl (fun q hq => t_X9_mix (by omega) hq) (fun q3 => ?_)
      refine to_go 2 (pc' := 137) (a' := ([(1, am_I (v1 + (1 : Int32))), (0, am_R 32 i0)], ([], (z, q3)))) rfl ?_
      refine to_fg [1, 0] (lv' := [(0, am_R 32 i0), (1, am_I (v1 + (1 : Int32)))]) rfl ?_
      exact ih i0 (v1 + (1 : Int32)) q3
def b_X9_digest_63 (n : Nat) : Nat → Nat → Int32 → am_X → Option (Int64 × am_X)
  | 0, _, _, _ => none
  | k + 1, i0, v1, x => if (xF x 32 7 i0) ≤ v1 then (b_X9_digest_137 n n i0 (0 : Int32) x) else (b_X9_digest_73 n (b_X9_digest_63 n k) n i0 v1 (0 : Int32) x)
theorem tb_X9_digest_63 {n : Nat} {d : Nat} {z : am_X} (hd : 7 ≤ d) : ∀ (k : Nat) (i0 : Nat) (v1 : Int32) (x : am_X), am_To d (am_tab pX9_digest) 63 ([(0, am_R 32 i0), (1, am_I v1)], ([], (z, x))) (cvJ1 z) (b_X9_digest_63 n k i0 v1 x) := by
  intro k
  induction k with
  | zero =>
    intro i0 v1 x
    exact to_0
  | succ k ih =>
    intro i0 v1 x
    rw [b_X9_digest_63]
    refine to_if 4 (c := (xF x 32 7 i0) ≤ v1) (p1 := 135) (p2 := 71) (a' := ([(0, am_R 32 i0), (1, am_I v1)], ([], (z, x)))) rfl (fun c_1 => ?_) (fun c_1 => ?_)
    · refine to_go 2 (pc' := 137) (a' := ([(1, am_I (0 : Int32)), (0, am_R 32 i0)], ([], (z, x)))) rfl ?_
      refine to_fg [1, 0] (lv' := [(0, am_R 32 i0), (1, am_I (0 : Int32))]) rfl ?_
      exact tb_X9_digest_137 (by omega)  n i0 (0 : Int32) x
    · refine to_go 2 (pc' := 73) (a' := ([(2, am_I (0 : Int32)), (0, am_R 32 i0), (1, am_I v1)], ([], (z, x)))) rfl ?_
      refine to_fg [1, 2, 0] (lv' := [(0, am_R 32 i0), (1, am_I v1), (2, am_I (0 : Int32))]) rfl ?_
      exact tb_X9_digest_73 (by omega) ih  n i0 v1 (0 : Int32) x
def b_X9_digest_61 (n : Nat) (i0 : Nat) (x : am_X) : Option (Int64 × am_X) := b_X9_digest_63 n n i0 (0 : Int32) x
theorem tb_X9_digest_61 {n : Nat} {d : Nat} {z : am_X} (hd : 7 ≤ d) (i0 : Nat) (x : am_X) : am_To d (am_tab pX9_digest) 61 ([(0, am_R 32 i0)], ([], (z, x))) (cvJ1 z) (b_X9_digest_61 n i0 x) := by
  unfold b_X9_digest_61
  refine to_go 2 (pc' := 63) (a' := ([(1, am_I (0 : Int32)), (0, am_R 32 i0)], ([], (z, x)))) rfl ?_
  refine to_fg [1, 0] (lv' := [(0, am_R 32 i0), (1, am_I (0 : Int32))]) rfl ?_
  exact tb_X9_digest_63 (by omega)  n i0 (0 : Int32) x
def b_X9_digest_9 (n : Nat) : Nat → Nat → Int32 → am_X → Option (Int64 × am_X)
  | 0, _, _, _ => none
  | k + 1, i0, v1, x => if (4 : Int32) ≤ v1 then (b_X9_digest_61 n i0 x) else (if (xF x 32 0 i0) = 0 then (b_X9_digest_61 n i0 x) else (b_X9_digest_23 n (b_X9_digest_9 n k) n i0 v1 (0 : Int32) x))
theorem tb_X9_digest_9 {n : Nat} {d : Nat} {z : am_X} (hd : 7 ≤ d) : ∀ (k : Nat) (i0 : Nat) (v1 : Int32) (x : am_X), am_To d (am_tab pX9_digest) 9 ([(0, am_R 32 i0), (1, am_I v1)], ([], (z, x))) (cvJ1 z) (b_X9_digest_9 n k i0 v1 x) := by
  intro k
  induction k with
  | zero =>
    intro i0 v1 x
    exact to_0
  | succ k ih =>
    intro i0 v1 x
    rw [b_X9_digest_9]
    refine to_if 3 (c := (4 : Int32) ≤ v1) (p1 := 61) (p2 := 14) (a' := ([(0, am_R 32 i0), (1, am_I v1)], ([], (z, x)))) rfl (fun c_1 => ?_) (fun c_1 => ?_)
    · refine to_fg [0] (lv' := [(0, am_R 32 i0)]) rfl ?_
      exact tb_X9_digest_61 (by omega)  i0 x
    · refine to_if 3 (c := (xF x 32 0 i0) = 0) (p1 := 61) (p2 := 21) (a' := ([(0, am_R 32 i0), (1, am_I v1)], ([], (z, x)))) rfl (fun c_2 => ?_) (fun c_2 => ?_)
      · refine to_fg [0] (lv' := [(0, am_R 32 i0)]) rfl ?_
        exact tb_X9_digest_61 (by omega)  i0 x
      · refine to_go 2 (pc' := 23) (a' := ([(2, am_I (0 : Int32)), (0, am_R 32 i0), (1, am_I v1)], ([], (z, x)))) rfl ?_
        refine to_fg [1, 2, 0] (lv' := [(0, am_R 32 i0), (1, am_I v1), (2, am_I (0 : Int32))]) rfl ?_
        exact tb_X9_digest_23 (by omega) ih  n i0 v1 (0 : Int32) x
def f_X9_digest (n : Nat) (i0 : Nat) (x : am_X) : Option (Int64 × am_X) := b_X9_digest_9 n n i0 (0 : Int32) (sL x 60 (733 : Int64))
theorem t_X9_digest {n : Nat} {d : Nat} {i0 : Nat} {x z : am_X} {q : Int64 × am_X} (hd : 8 ≤ d) (h : f_X9_digest n i0 x = some q) : am_Ev am_PR d 181 [am_R 32 i0] (z, x) (cvJ1 z q) := by
  obtain ⟨d, rfl⟩ : ∃ e, d = e + 1 := ⟨d - 1, by omega⟩
  refine to_ev (P := (am_tab pX9_digest)) rfl (lv := [(0, am_R 32 i0)]) rfl ?_ q h
  unfold f_X9_digest
  refine to_go 4 (pc' := 8) (a' := ([(0, am_R 32 i0)], ([am_I (0 : Int32)], (z, (sL x 60 (733 : Int64)))))) rfl ?_
  refine to_go 1 (pc' := 9) (a' := ([(1, am_I (0 : Int32)), (0, am_R 32 i0)], ([], (z, (sL x 60 (733 : Int64)))))) rfl ?_
  refine to_fg [1, 0] (lv' := [(0, am_R 32 i0), (1, am_I (0 : Int32))]) rfl ?_
  exact tb_X9_digest_9 (by omega)  n i0 (0 : Int32) (sL x 60 (733 : Int64))
