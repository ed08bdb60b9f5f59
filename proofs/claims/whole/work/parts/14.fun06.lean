def f_X9_serve (n : Nat) (i0 : Nat) (v1 : Int32) (v2 : Int32) (v3 : Int32) (x : am_X) : Option (am_X) := if am_inB v1 5 = true then (if (xA x 50 0 (Int32.toNatClampNeg v1)) ≤ 0 then ((f_X9_give n i0 v1 (((4 : Int32) * v3) + v2) x).bind fun q3 => if am_inB v1 5 = true then (if ¬ (xA q3.2 48 0 (Int32.toNatClampNeg v1)) = (2 : Int32) then (some q3.2) else ((f_X9_give n i0 v1 (((4 : Int32) * v3) + v2) q3.2).bind fun q6 => some q6.2)) else none) else (if am_inB v1 5 = true then (if am_inB v1 5 = true then (some (sA x 50 0 (Int32.toNatClampNeg v1) ((xA x 50 0 (Int32.toNatClampNeg v1)) - (1 : Int32)))) else none) else none)) else none
theorem t_X9_serve {n : Nat} {d : Nat} {i0 : Nat} {v1 : Int32} {v2 : Int32} {v3 : Int32} {x z : am_X} {q : am_X} (hd : 2 ≤ d) (h : f_X9_serve n i0 v1 v2 v3 x = some q) : am_Ev am_PR d 137 [am_R 32 i0, am_I v1, am_I v2, am_I v3] (z, x) (cvV1 z q) := by
  obtain ⟨d, rfl⟩ : ∃ e, d = e + 1 := ⟨d - 1, by omega⟩
  refine to_ev (P := (am_tab pX9_serve)) rfl (lv := [(0, am_R 32 i0), (1, am_I v1), (2, am_I v2), (3, am_I v3)]) rfl ?_ q h
  unfold f_X9_serve
  refine to_gd 3 5 (c := am_inB v1 5 = true) (pc' := 6) (a' := ([(0, am_R 32 i0), (1, am_I v1), (2, am_I v2), (3, am_I v3)], ([am_I (xA x 50 0 (Int32.toNatClampNeg v1))], (z, x)))) rfl rfl (fun c_1 => ?_)
  refine to_if 1 (c := (xA x 50 0 (Int32.toNatClampNeg v1)) ≤ 0) (p1 := 20) (p2 := 9) (a' := ([(0, am_R 32 i0), (1, am_I v1), (2, am_I v2), (3, am_I v3)], ([], (z, x)))) rfl (fun c_2 => ?_) (fun c_2 => ?_)
  · refine to_go 4 (pc' := 24) (a' := ([(0, am_R 32 i0), (1, am_I v1), (2, am_I v2), (3, am_I v3)], ([am_I v3, am_I (4 : Int32), am_I v1, am_R 32 i0], (z, x)))) rfl ?_
    refine to_cl 4 (lv := [(0, am_R 32 i0), (1, am_I v1), (2, am_I v2), (3, am_I v3)]) (st := []) (M := (z, x)) (cb := (cvI1 z)) rfl (fun q hq => t_X9_give (by omega) hq) (fun q3 => ?_)
    refine to_go 4 (pc' := 36) (a' := ([(0, am_R 32 i0), (1, am_I v1), (2, am_I v2), (3, am_I v3)], ([am_I v1, am_R 48 0], (z, q3.2)))) rfl ?_
    refine to_gd 0 36 (c := am_inB v1 5 = true) (pc' := 37) (a' := ([(0, am_R 32 i0), (1, am_I v1), (2, am_I v2), (3, am_I v3)], ([am_I (xA q3.2 48 0 (Int32.toNatClampNeg v1))], (z, q3.2)))) rfl rfl (fun c_4 => ?_)
    refine to_if 2 (c := ¬ (xA q3.2 48 0 (Int32.toNatClampNeg v1)) = (2 : Int32)) (p1 := 52) (p2 := 41) (a' := ([(0, am_R 32 i0), (1, am_I v1), (2, am_I v2), (3, am_I v3)], ([], (z, q3.2)))) rfl (fun c_5 => ?_) (fun c_5 => ?_)
    · exact to_rt 1 rfl
    · refine to_go 4 (pc' := 45) (a' := ([(0, am_R 32 i0), (1, am_I v1), (2, am_I v2), (3, am_I v3)], ([am_I v3, am_I (4 : Int32), am_I v1, am_R 32 i0], (z, q3.2)))) rfl ?_
      refine to_cl 4 (lv := [(0, am_R 32 i0), (1, am_I v1), (2, am_I v2), (3, am_I v3)]) (st := []) (M := (z, q3.2)) (cb := (cvI1 z)) rfl (fun q hq => t_X9_give (by omega) hq) (fun q6 => ?_)
      exact to_rt 2 rfl
  · refine to_go 4 (pc' := 15) (a' := ([(0, am_R 32 i0), (1, am_I v1), (2, am_I v2), (3, am_I v3)], ([am_I v1, am_R 50 0, am_I v1, am_R 50 0], (z, x)))) rfl ?_
    refine to_gd 0 15 (c := am_inB v1 5 = true) (pc' := 16) (a' := ([(0, am_R 32 i0), (1, am_I v1), (2, am_I v2), (3, am_I v3)], ([am_I (xA x 50 0 (Int32.toNatClampNeg v1)), am_I v1, am_R 50 0], (z, x)))) rfl rfl (fun c_7 => ?_)
    refine to_gd 2 18 (c := am_inB v1 5 = true) (pc' := 19) (a' := ([(0, am_R 32 i0), (1, am_I v1), (2, am_I v2), (3, am_I v3)], ([], (z, (sA x 50 0 (Int32.toNatClampNeg v1) ((xA x 50 0 (Int32.toNatClampNeg v1)) - (1 : Int32))))))) rfl rfl (fun c_8 => ?_)
    exact to_rt 1 rfl
def b_X9_doAct_55 (n : Nat) (s0 : Nat) (s1 : Int32) (s2 : Int32) (s3 : Int32) (s4 : Int32) (x : am_X) : Option (am_X) := if am_inB s1 5 = true then (some (sA x 50 s0 (Int32.toNatClampNeg s1) (s2 + (s3 * s4)))) else none
theorem tb_X9_doAct_55 {n : Nat} {d : Nat} {z : am_X} (hd : 2 ≤ d) (s0 : Nat) (s1 : Int32) (s2 : Int32) (s3 : Int32) (s4 : Int32) (x : am_X) : am_To d (am_tab pX9_doAct) 55 ([], ([am_I s4, am_I s3, am_I s2, am_I s1, am_R 50 s0], (z, x))) (cvV1 z) (b_X9_doAct_55 n s0 s1 s2 s3 s4 x) := by
  unfold b_X9_doAct_55
  refine to_gd 2 57 (c := am_inB s1 5 = true) (pc' := 58) (a' := ([], ([], (z, (sA x 50 s0 (Int32.toNatClampNeg s1) (s2 + (s3 * s4))))))) rfl rfl (fun c_1 => ?_)
  exact to_rt 2 rfl
def f_X9_doAct (n : Nat) (i0 : Nat) (v1 : Int32) (v2 : Int32) (v3 : Int32) (x : am_X) : Option (am_X) := if v2 < (20 : Int32) then (if v2 < (10 : Int32) then (if (3 : Int32) ≤ v2 then (some x) else ((f_X9_serve n i0 v1 v2 v3 x).bind fun q4 => some q4)) else (if am_inB v1 5 = true then ((f_X9_gets n i0 v1 (v2 - (10 : Int32)) x).bind fun q6 => if am_inB v1 5 = true then (if am_inB (v2 - (10 : Int32)) 4 = true then (if am_inB v1 5 = true then (if am_inB (v2 - (10 : Int32)) 4 = true then ((f_X9_needs n (xA q6.2 48 0 (Int32.toNatClampNeg v1)) (xA q6.2 43 0 (Int32.toNatClampNeg (v2 - (10 : Int32)))) (sA q6.2 49 0 (Int32.toNatClampNeg v1) ((xA x 49 0 (Int32.toNatClampNeg v1)) + q6.1))).bind fun q11 => (f_X9_take n i0 v1 (xA q6.2 45 0 (Int32.toNatClampNeg (v2 - (10 : Int32)))) q11.1 q11.2).bind fun q12 => some q12.2) else none) else none) else none) else none) else none)) else (if am_inB v1 5 = true then ((f_X9_gets n i0 v1 (v2 - (20 : Int32)) x).bind fun q14 => if am_inB v1 5 = true then (if am_inB v1 5 = true then (if am_inB (v2 - (20 : Int32)) 4 = true then (if am_inB v1 5 = true then (if ¬ (xA q14.2 48 0 (Int32.toNatClampNeg v1)) = (4 : Int32) then (b_X9_doAct_55 n 0 v1 (xA q14.2 50 0 (Int32.toNatClampNeg v1)) (xA q14.2 43 0 (Int32.toNatClampNeg (v2 - (20 : Int32)))) (2 : Int32) (sA q14.2 49 0 (Int32.toNatClampNeg v1) ((xA x 49 0 (Int32.toNatClampNeg v1)) + q14.1))) else (b_X9_doAct_55 n 0 v1 (xA q14.2 50 0 (Int32.toNatClampNeg v1)) (xA q14.2 43 0 (Int32.toNatClampNeg (v2 - (20 : Int32)))) (1 : Int32) (sA q14.2 49 0 (Int32.toNatClampNeg v1) ((xA x 49 0 (Int32.toNatClampNeg v1)) + q14.1)))) else none) else none) else none) else none) else none)
theorem t_X9_doAct {n : Nat} {d : Nat} {i0 : Nat} {v1 : Int32} {v2 : Int32} {v3 : Int32} {x z : am_X} {q : am_X} (hd : 3 ≤ d) (h : f_X9_doAct n i0 v1 v2 v3 x = some q) : am_Ev am_PR d 136 [am_R 32 i0, am_I v1, am_I v2, am_I v3] (z, x) (cvV1 z q) := by
  obtain ⟨d, rfl⟩ : ∃ e, d = e + 1 := ⟨d - 1, by omega⟩
  refine to_ev (P := (am_tab pX9_doAct)) rfl (lv := [(0, am_R 32 i0), (1, am_I v1), (2, am_I v2), (3, am_I v3)]) rfl ?_ q h
  unfold f_X9_doAct
  refine to_if 3 (c := v2 < (20 : Int32)) (p1 := 61) (p2 := 6) (a' := ([(0, am_R 32 i0), (1, am_I v1), (2, am_I v2), (3, am_I v3)], ([], (z, x)))) rfl (fun c_1 => ?_) (fun c_1 => ?_)
  · refine to_if 3 (c := v2 < (10 : Int32)) (p1 := 121) (p2 := 67) (a' := ([(0, am_R 32 i0), (1, am_I v1), (2, am_I v2), (3, am_I v3)], ([], (z, x)))) rfl (fun c_2 => ?_) (fun c_2 => ?_)
    · refine to_if 3 (c := (3 : Int32) ≤ v2) (p1 := 133) (p2 := 126) (a' := ([(0, am_R 32 i0), (1, am_I v1), (2, am_I v2), (3, am_I v3)], ([], (z, x)))) rfl (fun c_3 => ?_) (fun c_3 => ?_)
      · exact to_rt 1 rfl
      · refine to_go 4 (pc' := 130) (a' := ([(0, am_R 32 i0), (1, am_I v1), (2, am_I v2), (3, am_I v3)], ([am_I v3, am_I v2, am_I v1, am_R 32 i0], (z, x)))) rfl ?_
        refine to_cl 1 (lv := [(0, am_R 32 i0), (1, am_I v1), (2, am_I v2), (3, am_I v3)]) (st := []) (M := (z, x)) (cb := (cvV1 z)) rfl (fun q hq => t_X9_serve (by omega) hq) (fun q4 => ?_)
        exact to_rt 1 rfl
    · refine to_go 4 (pc' := 73) (a' := ([(0, am_R 32 i0), (1, am_I v1), (2, am_I v2), (3, am_I v3)], ([am_I v1, am_R 49 0, am_I v1, am_R 49 0], (z, x)))) rfl ?_
      refine to_gd 0 73 (c := am_inB v1 5 = true) (pc' := 74) (a' := ([(0, am_R 32 i0), (1, am_I v1), (2, am_I v2), (3, am_I v3)], ([am_I (xA x 49 0 (Int32.toNatClampNeg v1)), am_I v1, am_R 49 0], (z, x)))) rfl rfl (fun c_5 => ?_)
      refine to_go 4 (pc' := 79) (a' := ([(0, am_R 32 i0), (1, am_I v1), (2, am_I v2), (3, am_I v3)], ([am_I (10 : Int32), am_I v2, am_I v1, am_R 32 i0, am_I (xA x 49 0 (Int32.toNatClampNeg v1)), am_I v1, am_R 49 0], (z, x)))) rfl ?_
      refine to_cl 2 (lv := [(0, am_R 32 i0), (1, am_I v1), (2, am_I v2), (3, am_I v3)]) (st := [am_I (xA x 49 0 (Int32.toNatClampNeg v1)), am_I v1, am_R 49 0]) (M := (z, x)) (cb := (cvI1 z)) rfl (fun q hq => t_X9_gets (by omega) hq) (fun q6 => ?_)
      refine to_gd 1 84 (c := am_inB v1 5 = true) (pc' := 85) (a' := ([(0, am_R 32 i0), (1, am_I v1), (2, am_I v2), (3, am_I v3)], ([], (z, (sA q6.2 49 0 (Int32.toNatClampNeg v1) ((xA x 49 0 (Int32.toNatClampNeg v1)) + q6.1)))))) rfl rfl (fun c_7 => ?_)
      refine to_go 4 (pc' := 91) (a' := ([(0, am_R 32 i0), (1, am_I v1), (2, am_I v2), (3, am_I v3)], ([am_R 45 0, am_I v1, am_R 32 i0], (z, (sA q6.2 49 0 (Int32.toNatClampNeg v1) ((xA x 49 0 (Int32.toNatClampNeg v1)) + q6.1)))))) rfl ?_
      refine to_gd 3 95 (c := am_inB (v2 - (10 : Int32)) 4 = true) (pc' := 96) (a' := ([(0, am_R 32 i0), (1, am_I v1), (2, am_I v2), (3, am_I v3)], ([am_I (xA q6.2 45 0 (Int32.toNatClampNeg (v2 - (10 : Int32)))), am_I v1, am_R 32 i0], (z, (sA q6.2 49 0 (Int32.toNatClampNeg v1) ((xA x 49 0 (Int32.toNatClampNeg v1)) + q6.1)))))) rfl rfl (fun c_8 => ?_)
      refine to_gd 3 101 (c := am_inB v1 5 = true) (pc' := 102) (a' := ([(0, am_R 32 i0), (1, am_I v1), (2, am_I v2), (3, am_I v3)], ([am_I (xA q6.2 48 0 (Int32.toNatClampNeg v1)), am_I (xA q6.2 45 0 (Int32.toNatClampNeg (v2 - (10 : Int32)))), am_I v1, am_R 32 i0], (z, (sA q6.2 49 0 (Int32.toNatClampNeg v1) ((xA x 49 0 (Int32.toNatClampNeg v1)) + q6.1)))))) rfl rfl (fun c_9 => ?_)
      refine to_go 4 (pc' := 109) (a' := ([(0, am_R 32 i0), (1, am_I v1), (2, am_I v2), (3, am_I v3)], ([am_I (10 : Int32), am_I v2, am_R 43 0, am_I (xA q6.2 48 0 (Int32.toNatClampNeg v1)), am_I (xA q6.2 45 0 (Int32.toNatClampNeg (v2 - (10 : Int32)))), am_I v1, am_R 32 i0], (z, (sA q6.2 49 0 (Int32.toNatClampNeg v1) ((xA x 49 0 (Int32.toNatClampNeg v1)) + q6.1)))))) rfl ?_
      refine to_gd 1 110 (c := am_inB (v2 - (10 : Int32)) 4 = true) (pc' := 111) (a' := ([(0, am_R 32 i0), (1, am_I v1), (2, am_I v2), (3, am_I v3)], ([am_I (xA q6.2 43 0 (Int32.toNatClampNeg (v2 - (10 : Int32)))), am_I (xA q6.2 48 0 (Int32.toNatClampNeg v1)), am_I (xA q6.2 45 0 (Int32.toNatClampNeg (v2 - (10 : Int32)))), am_I v1, am_R 32 i0], (z, (sA q6.2 49 0 (Int32.toNatClampNeg v1) ((xA x 49 0 (Int32.toNatClampNeg v1)) + q6.1)))))) rfl rfl (fun c_10 => ?_)
      refine to_cl 1 (lv := [(0, am_R 32 i0), (1, am_I v1), (2, am_I v2), (3, am_I v3)]) (st := [am_I (xA q6.2 45 0 (Int32.toNatClampNeg (v2 - (10 : Int32)))), am_I v1, am_R 32 i0]) (M := (z, (sA q6.2 49 0 (Int32.toNatClampNeg v1) ((xA x 49 0 (Int32.toNatClampNeg v1)) + q6.1)))) (cb := (cvI1 z)) rfl (fun q hq => t_X9_needs (by omega) hq) (fun q11 => ?_)
      refine to_cl 1 (lv := [(0, am_R 32 i0), (1, am_I v1), (2, am_I v2), (3, am_I v3)]) (st := []) (M := (z, q11.2)) (cb := (cvI1 z)) rfl (fun q hq => t_X9_take (by omega) hq) (fun q12 => ?_)
      exact to_rt 3 rfl
  · refine to_go 4 (pc' := 12) (a' := ([(0, am_R 32 i0), (1, am_I v1), (2, am_I v2), (3, am_I v3)], ([am_I v1, am_R 49 0, am_I v1, am_R 49 0], (z, x)))) rfl ?_
    refine to_gd 0 12 (c := am_inB v1 5 = true) (pc' := 13) (a' := ([(0, am_R 32 i0), (1, am_I v1), (2, am_I v2), (3, am_I v3)], ([am_I (xA x 49 0 (Int32.toNatClampNeg v1)), am_I v1, am_R 49 0], (z, x)))) rfl rfl (fun c_13 => ?_)
    refine to_go 4 (pc' := 18) (a' := ([(0, am_R 32 i0), (1, am_I v1), (2, am_I v2), (3, am_I v3)], ([am_I (20 : Int32), am_I v2, am_I v1, am_R 32 i0, am_I (xA x 49 0 (Int32.toNatClampNeg v1)), am_I v1, am_R 49 0], (z, x)))) rfl ?_
    refine to_cl 2 (lv := [(0, am_R 32 i0), (1, am_I v1), (2, am_I v2), (3, am_I v3)]) (st := [am_I (xA x 49 0 (Int32.toNatClampNeg v1)), am_I v1, am_R 49 0]) (M := (z, x)) (cb := (cvI1 z)) rfl (fun q hq => t_X9_gets (by omega) hq) (fun q14 => ?_)
    refine to_gd 1 23 (c := am_inB v1 5 = true) (pc' := 24) (a' := ([(0, am_R 32 i0), (1, am_I v1), (2, am_I v2), (3, am_I v3)], ([], (z, (sA q14.2 49 0 (Int32.toNatClampNeg v1) ((xA x 49 0 (Int32.toNatClampNeg v1)) + q14.1)))))) rfl rfl (fun c_15 => ?_)
    refine to_go 4 (pc' := 30) (a' := ([(0, am_R 32 i0), (1, am_I v1), (2, am_I v2), (3, am_I v3)], ([am_I v1, am_R 50 0, am_I v1, am_R 50 0], (z, (sA q14.2 49 0 (Int32.toNatClampNeg v1) ((xA x 49 0 (Int32.toNatClampNeg v1)) + q14.1)))))) rfl ?_
    refine to_gd 0 30 (c := am_inB v1 5 = true) (pc' := 31) (a' := ([(0, am_R 32 i0), (1, am_I v1), (2, am_I v2), (3, am_I v3)], ([am_I (xA q14.2 50 0 (Int32.toNatClampNeg v1)), am_I v1, am_R 50 0], (z, (sA q14.2 49 0 (Int32.toNatClampNeg v1) ((xA x 49 0 (Int32.toNatClampNeg v1)) + q14.1)))))) rfl rfl (fun c_16 => ?_)
    refine to_go 4 (pc' := 38) (a' := ([(0, am_R 32 i0), (1, am_I v1), (2, am_I v2), (3, am_I v3)], ([am_I (20 : Int32), am_I v2, am_R 43 0, am_I (xA q14.2 50 0 (Int32.toNatClampNeg v1)), am_I v1, am_R 50 0], (z, (sA q14.2 49 0 (Int32.toNatClampNeg v1) ((xA x 49 0 (Int32.toNatClampNeg v1)) + q14.1)))))) rfl ?_
    refine to_gd 1 39 (c := am_inB (v2 - (20 : Int32)) 4 = true) (pc' := 40) (a' := ([(0, am_R 32 i0), (1, am_I v1), (2, am_I v2), (3, am_I v3)], ([am_I (xA q14.2 43 0 (Int32.toNatClampNeg (v2 - (20 : Int32)))), am_I (xA q14.2 50 0 (Int32.toNatClampNeg v1)), am_I v1, am_R 50 0], (z, (sA q14.2 49 0 (Int32.toNatClampNeg v1) ((xA x 49 0 (Int32.toNatClampNeg v1)) + q14.1)))))) rfl rfl (fun c_17 => ?_)
    refine to_gd 3 45 (c := am_inB v1 5 = true) (pc' := 46) (a' := ([(0, am_R 32 i0), (1, am_I v1), (2, am_I v2), (3, am_I v3)], ([am_I (xA q14.2 48 0 (Int32.toNatClampNeg v1)), am_I (xA q14.2 43 0 (Int32.toNatClampNeg (v2 - (20 : Int32)))), am_I (xA q14.2 50 0 (Int32.toNatClampNeg v1)), am_I v1, am_R 50 0], (z, (sA q14.2 49 0 (Int32.toNatClampNeg v1) ((xA x 49 0 (Int32.toNatClampNeg v1)) + q14.1)))))) rfl rfl (fun c_18 => ?_)
    refine to_if 2 (c := ¬ (xA q14.2 48 0 (Int32.toNatClampNeg v1)) = (4 : Int32)) (p1 := 54) (p2 := 50) (a' := ([(0, am_R 32 i0), (1, am_I v1), (2, am_I v2), (3, am_I v3)], ([am_I (xA q14.2 43 0 (Int32.toNatClampNeg (v2 - (20 : Int32)))), am_I (xA q14.2 50 0 (Int32.toNatClampNeg v1)), am_I v1, am_R 50 0], (z, (sA q14.2 49 0 (Int32.toNatClampNeg v1) ((xA x 49 0 (Int32.toNatClampNeg v1)) + q14.1)))))) rfl (fun c_19 => ?_) (fun c_19 => ?_)
    · refine to_go 1 (pc' := 55) (a' := ([(0, am_R 32 i0), (1, am_I v1), (2, am_I v2), (3, am_I v3)], ([am_I (2 : Int32), am_I (xA q14.2 43 0 (Int32.toNatClampNeg (v2 - (20 : Int32)))), am_I (xA q14.2 50 0 (Int32.toNatClampNeg v1)), am_I v1, am_R 50 0], (z, (sA q14.2 49 0 (Int32.toNatClampNeg v1) ((xA x 49 0 (Int32.toNatClampNeg v1)) + q14.1)))))) rfl ?_
      refine to_fg [] (lv' := []) rfl ?_
      exact tb_X9_doAct_55 (by omega)  0 v1 (xA q14.2 50 0 (Int32.toNatClampNeg v1)) (xA q14.2 43 0 (Int32.toNatClampNeg (v2 - (20 : Int32)))) (2 : Int32) (sA q14.2 49 0 (Int32.toNatClampNeg v1) ((xA x 49 0 (Int32.toNatClampNeg v1)) + q14.1))
    · refine to_go 2 (pc' := 55) (a' := ([(0, am_R 32 i0), (1, am_I v1), (2, am_I v2), (3, am_I v3)], ([am_I (1 : Int32), am_I (xA q14.2 43 0 (Int32.toNatClampNeg (v2 - (20 : Int32)))), am_I (xA q14.2 50 0 (Int32.toNatClampNeg v1)), am_I v1, am_R 50 0], (z, (sA q14.2 49 0 (Int32.toNatClampNeg v1) ((xA x 49 0 (Int32.toNatClampNeg v1)) + q14.1)))))) rfl ?_
      refine to_fg [] (lv' := []) rfl ?_
      exact tb_X9_doAct_55 (by omega)  0 v1 (xA q14.2 50 0 (Int32.toNatClampNeg v1)) (xA q14.2 43 0 (Int32.toNatClampNeg (v2 - (20 : Int32)))) (1 : Int32) (sA q14.2 49 0 (Int32.toNatClampNeg v1) ((xA x 49 0 (Int32.toNatClampNeg v1)) + q14.1))
def f_X9_mayNow (n : Nat) (i0 : Nat) (v1 : Int32) (v2 : Int32) (x : am_X) : Option (Int32 × am_X) := if am_inB v1 5 = true then (if ¬ (xA x 51 0 (Int32.toNatClampNeg v1)) = 0 then (some ((0 : Int32), x)) else ((f_X9_mayDo n i0 v1 v2 x).bind fun q3 => if q3.1 = 0 then (some ((0 : Int32), q3.2)) else (some ((1 : Int32), q3.2)))) else none
theorem t_X9_mayNow {n : Nat} {d : Nat} {i0 : Nat} {v1 : Int32} {v2 : Int32} {x z : am_X} {q : Int32 × am_X} (hd : 5 ≤ d) (h : f_X9_mayNow n i0 v1 v2 x = some q) : am_Ev am_PR d 138 [am_R 32 i0, am_I v1, am_I v2] (z, x) (cvI1 z q) := by
  obtain ⟨d, rfl⟩ : ∃ e, d = e + 1 := ⟨d - 1, by omega⟩
  refine to_ev (P := (am_tab pX9_mayNow)) rfl (lv := [(0, am_R 32 i0), (1, am_I v1), (2, am_I v2)]) rfl ?_ q h
  unfold f_X9_mayNow
  refine to_gd 3 5 (c := am_inB v1 5 = true) (pc' := 6) (a' := ([(0, am_R 32 i0), (1, am_I v1), (2, am_I v2)], ([am_I (xA x 51 0 (Int32.toNatClampNeg v1))], (z, x)))) rfl rfl (fun c_1 => ?_)
  refine to_if 1 (c := ¬ (xA x 51 0 (Int32.toNatClampNeg v1)) = 0) (p1 := 22) (p2 := 9) (a' := ([(0, am_R 32 i0), (1, am_I v1), (2, am_I v2)], ([], (z, x)))) rfl (fun c_2 => ?_) (fun c_2 => ?_)
  · exact to_rk 1 23 (c := am_bz (0 : Int32) = true) (r := ((0 : Int32), x)) rfl rfl (by decide)
  · refine to_cl 4 (lv := [(0, am_R 32 i0), (1, am_I v1), (2, am_I v2)]) (st := []) (M := (z, x)) (cb := (cvI1 z)) rfl (fun q hq => t_X9_mayDo (by omega) hq) (fun q3 => ?_)
    refine to_if 1 (c := q3.1 = 0) (p1 := 22) (p2 := 18) (a' := ([(0, am_R 32 i0), (1, am_I v1), (2, am_I v2)], ([], (z, q3.2)))) rfl (fun c_4 => ?_) (fun c_4 => ?_)
    · exact to_rk 1 23 (c := am_bz (0 : Int32) = true) (r := ((0 : Int32), q3.2)) rfl rfl (by decide)
    · exact to_rk 2 23 (c := am_bz (1 : Int32) = true) (r := ((1 : Int32), q3.2)) rfl rfl (by decide)
def f_X9_may (n : Nat) (i0 : Nat) (v1 : Int32) (v2 : Int32) (x : am_X) : Option (Int32 × am_X) := (f_X9_isPerson n i0 v1 x).bind fun q1 => if q1.1 = 0 then (some ((-101 : Int32), q1.2)) else ((f_X9_isAct n v2 q1.2).bind fun q3 => if ¬ q3.1 = 0 then ((f_X9_mayNow n i0 v1 v2 q3.2).bind fun q5 => if q5.1 = 0 then (some ((0 : Int32), q5.2)) else (some ((1 : Int32), q5.2))) else (some ((-101 : Int32), q3.2)))
theorem t_X9_may {n : Nat} {d : Nat} {i0 : Nat} {v1 : Int32} {v2 : Int32} {x z : am_X} {q : Int32 × am_X} (hd : 6 ≤ d) (h : f_X9_may n i0 v1 v2 x = some q) : am_Ev am_PR d 139 [am_R 32 i0, am_I v1, am_I v2] (z, x) (cvI1 z q) := by
  obtain ⟨d, rfl⟩ : ∃ e, d = e + 1 := ⟨d - 1, by omega⟩
  refine to_ev (P := (am_tab pX9_may)) rfl (lv := [(0, am_R 32 i0), (1, am_I v1), (2, am_I v2)]) rfl ?_ q h
  unfold f_X9_may
  refine to_cl 3 (lv := [(0, am_R 32 i0), (1, am_I v1), (2, am_I v2)]) (st := []) (M := (z, x)) (cb := (cvI1 z)) rfl (fun q hq => t_X9_isPerson (by omega) hq) (fun q1 => ?_)
  refine to_if 1 (c := q1.1 = 0) (p1 := 15) (p2 := 8) (a' := ([(0, am_R 32 i0), (1, am_I v1), (2, am_I v2)], ([], (z, q1.2)))) rfl (fun c_2 => ?_) (fun c_2 => ?_)
  · exact to_rt 2 (r := ((-101 : Int32), q1.2)) rfl
  · refine to_cl 2 (lv := [(0, am_R 32 i0), (1, am_I v1), (2, am_I v2)]) (st := []) (M := (z, q1.2)) (cb := (cvI1 z)) rfl (fun q hq => t_X9_isAct (by omega) hq) (fun q3 => ?_)
    refine to_if 1 (c := ¬ q3.1 = 0) (p1 := 18) (p2 := 15) (a' := ([(0, am_R 32 i0), (1, am_I v1), (2, am_I v2)], ([], (z, q3.2)))) rfl (fun c_4 => ?_) (fun c_4 => ?_)
    · refine to_cl 4 (lv := [(0, am_R 32 i0), (1, am_I v1), (2, am_I v2)]) (st := []) (M := (z, q3.2)) (cb := (cvI1 z)) rfl (fun q hq => t_X9_mayNow (by omega) hq) (fun q5 => ?_)
      refine to_if 1 (c := q5.1 = 0) (p1 := 31) (p2 := 27) (a' := ([(0, am_R 32 i0), (1, am_I v1), (2, am_I v2)], ([], (z, q5.2)))) rfl (fun c_6 => ?_) (fun c_6 => ?_)
      · exact to_rt 2 (r := ((0 : Int32), q5.2)) rfl
      · exact to_rt 3 (r := ((1 : Int32), q5.2)) rfl
    · exact to_rt 2 (r := ((-101 : Int32), q3.2)) rfl
def f_X9_act (n : Nat) (i0 : Nat) (v1 : Int32) (v2 : Int32) (x : am_X) : Option (Int32 × am_X) := (f_X9_isPerson n i0 v1 x).bind fun q1 => if q1.1 = 0 then (some ((-101 : Int32), q1.2)) else ((f_X9_isAct n v2 q1.2).bind fun q3 => if ¬ q3.1 = 0 then ((f_X9_mayNow n i0 v1 v2 q3.2).bind fun q5 => if ¬ q5.1 = 0 then ((f_X9_doAct n i0 v1 v2 (xF q5.2 32 6 i0) q5.2).bind fun q7 => if am_inB v1 5 = true then (if am_inB v1 5 = true then (some ((xA q7 49 0 (Int32.toNatClampNeg v1)), (sA q7 51 0 (Int32.toNatClampNeg v1) (1 : Int32)))) else none) else none) else (some ((-103 : Int32), q5.2))) else (some ((-101 : Int32), q3.2)))
theorem t_X9_act {n : Nat} {d : Nat} {i0 : Nat} {v1 : Int32} {v2 : Int32} {x z : am_X} {q : Int32 × am_X} (hd : 6 ≤ d) (h : f_X9_act n i0 v1 v2 x = some q) : am_Ev am_PR d 140 [am_R 32 i0, am_I v1, am_I v2] (z, x) (cvI1 z q) := by
  obtain ⟨d, rfl⟩ : ∃ e, d = e + 1 := ⟨d - 1, by omega⟩
  refine to_ev (P := (am_tab pX9_act)) rfl (lv := [(0, am_R 32 i0), (1, am_I v1), (2, am_I v2)]) rfl ?_ q h
  unfold f_X9_act
  refine to_cl 3 (lv := [(0, am_R 32 i0), (1, am_I v1), (2, am_I v2)]) (st := []) (M := (z, x)) (cb := (cvI1 z)) rfl (fun q hq => t_X9_isPerson (by omega) hq) (fun q1 => ?_)
  refine to_if 1 (c := q1.1 = 0) (p1 := 15) (p2 := 8) (a' := ([(0, am_R 32 i0), (1, am_I v1), (2, am_I v2)], ([], (z, q1.2)))) rfl (fun c_2 => ?_) (fun c_2 => ?_)
  · exact to_rt 2 (r := ((-101 : Int32), q1.2)) rfl
  · refine to_cl 2 (lv := [(0, am_R 32 i0), (1, am_I v1), (2, am_I v2)]) (st := []) (M := (z, q1.2)) (cb := (cvI1 z)) rfl (fun q hq => t_X9_isAct (by omega) hq) (fun q3 => ?_)
    refine to_if 1 (c := ¬ q3.1 = 0) (p1 := 18) (p2 := 15) (a' := ([(0, am_R 32 i0), (1, am_I v1), (2, am_I v2)], ([], (z, q3.2)))) rfl (fun c_4 => ?_) (fun c_4 => ?_)
    · refine to_cl 4 (lv := [(0, am_R 32 i0), (1, am_I v1), (2, am_I v2)]) (st := []) (M := (z, q3.2)) (cb := (cvI1 z)) rfl (fun q hq => t_X9_mayNow (by omega) hq) (fun q5 => ?_)
      refine to_if 1 (c := ¬ q5.1 = 0) (p1 := 30) (p2 := 27) (a' := ([(0, am_R 32 i0), (1, am_I v1), (2, am_I v2)], ([], (z, q5.2)))) rfl (fun c_6 => ?_) (fun c_6 => ?_)
      · refine to_go 4 (pc' := 34) (a' := ([(0, am_R 32 i0), (1, am_I v1), (2, am_I v2)], ([am_R 32 i0, am_I v2, am_I v1, am_R 32 i0], (z, q5.2)))) rfl ?_
        refine to_cl 2 (lv := [(0, am_R 32 i0), (1, am_I v1), (2, am_I v2)]) (st := []) (M := (z, q5.2)) (cb := (cvV1 z)) rfl (fun q hq => t_X9_doAct (by omega) hq) (fun q7 => ?_)
        refine to_go 4 (pc' := 46) (a' := ([(0, am_R 32 i0), (1, am_I v1), (2, am_I v2)], ([am_I (1 : Int32), am_I v1, am_R 51 0], (z, q7)))) rfl ?_
        refine to_gd 0 46 (c := am_inB v1 5 = true) (pc' := 47) (a' := ([(0, am_R 32 i0), (1, am_I v1), (2, am_I v2)], ([], (z, (sA q7 51 0 (Int32.toNatClampNeg v1) (1 : Int32)))))) rfl rfl (fun c_8 => ?_)
        refine to_gd 3 52 (c := am_inB v1 5 = true) (pc' := 53) (a' := ([(0, am_R 32 i0), (1, am_I v1), (2, am_I v2)], ([am_I (xA q7 49 0 (Int32.toNatClampNeg v1))], (z, (sA q7 51 0 (Int32.toNatClampNeg v1) (1 : Int32)))))) rfl rfl (fun c_9 => ?_)
        exact to_rt 1 (r := ((xA q7 49 0 (Int32.toNatClampNeg v1)), (sA q7 51 0 (Int32.toNatClampNeg v1) (1 : Int32)))) rfl
      · exact to_rt 2 (r := ((-103 : Int32), q5.2)) rfl
    · exact to_rt 2 (r := ((-101 : Int32), q3.2)) rfl
def b_X9_goWeek_12 (n : Nat) : Nat → Nat → Int32 → am_X → Option (am_X)
  | 0, _, _, _ => none
  | k + 1, i0, v1, x => if (xF x 32 7 i0) ≤ v1 then ((f_X9_lapseAll n i0 x).bind fun q2 => some q2) else (if am_inB v1 5 = true then (b_X9_goWeek_12 n k i0 (v1 + (1 : Int32)) (sA x 51 0 (Int32.toNatClampNeg v1) (0 : Int32))) else none)
theorem tb_X9_goWeek_12 {n : Nat} {d : Nat} {z : am_X} (hd : 2 ≤ d) : ∀ (k : Nat) (i0 : Nat) (v1 : Int32) (x : am_X), am_To d (am_tab pX9_goWeek) 12 ([(0, am_R 32 i0), (1, am_I v1)], ([], (z, x))) (cvV1 z) (b_X9_goWeek_12 n k i0 v1 x) := by
  intro k
  induction k with
  | zero =>
    intro i0 v1 x
    exact to_0
  | succ k ih =>
    intro i0 v1 x
    rw [b_X9_goWeek_12]
    refine to_if 4 (c := (xF x 32 7 i0) ≤ v1) (p1 := 33) (p2 := 20) (a' := ([(0, am_R 32 i0), (1, am_I v1)], ([], (z, x)))) rfl (fun c_1 => ?_) (fun c_1 => ?_)
    · refine to_cl 2 (lv := [(0, am_R 32 i0), (1, am_I v1)]) (st := []) (M := (z, x)) (cb := (cvV1 z)) rfl (fun q hq => t_X9_lapseAll (by omega) hq) (fun q2 => ?_)
      exact to_rt 1 rfl
    · refine to_go 4 (pc' := 26) (a' := ([(0, am_R 32 i0), (1, am_I v1)], ([am_I (0 : Int32), am_I v1, am_R 51 0], (z, x)))) rfl ?_
      refine to_gd 0 26 (c := am_inB v1 5 = true) (pc' := 27) (a' := ([(0, am_R 32 i0), (1, am_I v1)], ([], (z, (sA x 51 0 (Int32.toNatClampNeg v1) (0 : Int32)))))) rfl rfl (fun c_3 => ?_)
      refine to_go 2 (pc' := 12) (a' := ([(1, am_I (v1 + (1 : Int32))), (0, am_R 32 i0)], ([], (z, (sA x 51 0 (Int32.toNatClampNeg v1) (0 : Int32)))))) rfl ?_
      refine to_fg [1, 0] (lv' := [(0, am_R 32 i0), (1, am_I (v1 + (1 : Int32)))]) rfl ?_
      exact ih i0 (v1 + (1 : Int32)) (sA x 51 0 (Int32.toNatClampNeg v1) (0 : Int32))
def f_X9_goWeek (n : Nat) (i0 : Nat) (x : am_X) : Option (am_X) := b_X9_goWeek_12 n n i0 (0 : Int32) (sF x 32 6 i0 ((xF x 32 6 i0) + (1 : Int32)))
theorem t_X9_goWeek {n : Nat} {d : Nat} {i0 : Nat} {x z : am_X} {q : am_X} (hd : 3 ≤ d) (h : f_X9_goWeek n i0 x = some q) : am_Ev am_PR d 141 [am_R 32 i0] (z, x) (cvV1 z q) := by
  obtain ⟨d, rfl⟩ : ∃ e, d = e + 1 := ⟨d - 1, by omega⟩
  refine to_ev (P := (am_tab pX9_goWeek)) rfl (lv := [(0, am_R 32 i0)]) rfl ?_ q h
  unfold f_X9_goWeek
  refine to_go 4 (pc' := 6) (a' := ([(0, am_R 32 i0)], ([am_I (1 : Int32), am_I (xF x 32 6 i0), am_R 32 i0], (z, x)))) rfl ?_
  refine to_go 4 (pc' := 12) (a' := ([(1, am_I (0 : Int32)), (0, am_R 32 i0)], ([], (z, (sF x 32 6 i0 ((xF x 32 6 i0) + (1 : Int32))))))) rfl ?_
  refine to_fg [1, 0] (lv' := [(0, am_R 32 i0), (1, am_I (0 : Int32))]) rfl ?_
  exact tb_X9_goWeek_12 (by omega)  n i0 (0 : Int32) (sF x 32 6 i0 ((xF x 32 6 i0) + (1 : Int32)))
def f_X9_week (n : Nat) (i0 : Nat) (x : am_X) : Option (Int32 × am_X) := (f_X9_goWeek n i0 x).bind fun q1 => some ((xF q1 32 6 i0), q1)
theorem t_X9_week {n : Nat} {d : Nat} {i0 : Nat} {x z : am_X} {q : Int32 × am_X} (hd : 4 ≤ d) (h : f_X9_week n i0 x = some q) : am_Ev am_PR d 142 [am_R 32 i0] (z, x) (cvI1 z q) := by
  obtain ⟨d, rfl⟩ : ∃ e, d = e + 1 := ⟨d - 1, by omega⟩
  refine to_ev (P := (am_tab pX9_week)) rfl (lv := [(0, am_R 32 i0)]) rfl ?_ q h
  unfold f_X9_week
  refine to_cl 2 (lv := [(0, am_R 32 i0)]) (st := []) (M := (z, x)) (cb := (cvV1 z)) rfl (fun q hq => t_X9_goWeek (by omega) hq) (fun q1 => ?_)
  exact to_rt 3 (r := ((xF q1 32 6 i0), q1)) rfl
def f_X9_sell (n : Nat) (i0 : Nat) (v1 : Int32) (v2 : Int32) (v3 : Int32) (x : am_X) : Option (Int32 × am_X) := (f_X9_isPerson n i0 v1 x).bind fun q1 => if q1.1 = 0 then (some ((-101 : Int32), q1.2)) else ((f_X9_isPerson n i0 v2 q1.2).bind fun q3 => if q3.1 = 0 then (some ((-101 : Int32), q3.2)) else (if v1 = v2 then (some ((-101 : Int32), q3.2)) else ((f_X9_within n v3 (0 : Int32) (2 : Int32) q3.2).bind fun q6 => if ¬ q6.1 = 0 then ((f_X9_countOf n i0 v1 ((1 : Int32) <<< (v3 &&& 31)) q6.2).bind fun q8 => if ¬ q8.1 = 0 then (if am_inB v2 5 = true then (if ¬ (xA q8.2 53 0 (Int32.toNatClampNeg v2)) = (12 : Int32) then ((f_X9_take n i0 v1 ((1 : Int32) <<< (v3 &&& 31)) (1 : Int32) q8.2).bind fun q12 => (f_X9_give n i0 v2 q12.1 q12.2).bind fun q13 => some ((q12.1 / (4 : Int32)), q13.2)) else (some ((-104 : Int32), q8.2))) else none) else (some ((-103 : Int32), q8.2))) else (some ((-101 : Int32), q6.2)))))
theorem t_X9_sell {n : Nat} {d : Nat} {i0 : Nat} {v1 : Int32} {v2 : Int32} {v3 : Int32} {x z : am_X} {q : Int32 × am_X} (hd : 4 ≤ d) (h : f_X9_sell n i0 v1 v2 v3 x = some q) : am_Ev am_PR d 143 [am_R 32 i0, am_I v1, am_I v2, am_I v3] (z, x) (cvI1 z q) := by
  obtain ⟨d, rfl⟩ : ∃ e, d = e + 1 := ⟨d - 1, by omega⟩
  refine to_ev (P := (am_tab pX9_sell)) rfl (lv := [(0, am_R 32 i0), (1, am_I v1), (2, am_I v2), (3, am_I v3)]) rfl ?_ q h
  unfold f_X9_sell
  refine to_cl 3 (lv := [(0, am_R 32 i0), (1, am_I v1), (2, am_I v2), (3, am_I v3)]) (st := []) (M := (z, x)) (cb := (cvI1 z)) rfl (fun q hq => t_X9_isPerson (by omega) hq) (fun q1 => ?_)
  refine to_if 1 (c := q1.1 = 0) (p1 := 30) (p2 := 8) (a' := ([(0, am_R 32 i0), (1, am_I v1), (2, am_I v2), (3, am_I v3)], ([], (z, q1.2)))) rfl (fun c_2 => ?_) (fun c_2 => ?_)
  · exact to_rt 2 (r := ((-101 : Int32), q1.2)) rfl
  · refine to_cl 3 (lv := [(0, am_R 32 i0), (1, am_I v1), (2, am_I v2), (3, am_I v3)]) (st := []) (M := (z, q1.2)) (cb := (cvI1 z)) rfl (fun q hq => t_X9_isPerson (by omega) hq) (fun q3 => ?_)
    refine to_if 1 (c := q3.1 = 0) (p1 := 30) (p2 := 16) (a' := ([(0, am_R 32 i0), (1, am_I v1), (2, am_I v2), (3, am_I v3)], ([], (z, q3.2)))) rfl (fun c_4 => ?_) (fun c_4 => ?_)
    · exact to_rt 2 (r := ((-101 : Int32), q3.2)) rfl
    · refine to_if 3 (c := v1 = v2) (p1 := 30) (p2 := 21) (a' := ([(0, am_R 32 i0), (1, am_I v1), (2, am_I v2), (3, am_I v3)], ([], (z, q3.2)))) rfl (fun c_5 => ?_) (fun c_5 => ?_)
      · exact to_rt 2 (r := ((-101 : Int32), q3.2)) rfl
      · refine to_cl 4 (lv := [(0, am_R 32 i0), (1, am_I v1), (2, am_I v2), (3, am_I v3)]) (st := []) (M := (z, q3.2)) (cb := (cvI1 z)) rfl (fun q hq => t_X9_within (by omega) hq) (fun q6 => ?_)
        refine to_if 1 (c := ¬ q6.1 = 0) (p1 := 33) (p2 := 30) (a' := ([(0, am_R 32 i0), (1, am_I v1), (2, am_I v2), (3, am_I v3)], ([], (z, q6.2)))) rfl (fun c_7 => ?_) (fun c_7 => ?_)
        · refine to_go 4 (pc' := 37) (a' := ([(0, am_R 32 i0), (1, am_I v1), (2, am_I v2), (3, am_I v3)], ([am_I v3, am_I (1 : Int32), am_I v1, am_R 32 i0], (z, q6.2)))) rfl ?_
          refine to_cl 2 (lv := [(0, am_R 32 i0), (1, am_I v1), (2, am_I v2), (3, am_I v3)]) (st := []) (M := (z, q6.2)) (cb := (cvI1 z)) rfl (fun q hq => t_X9_countOf (by omega) hq) (fun q8 => ?_)
          refine to_if 1 (c := ¬ q8.1 = 0) (p1 := 47) (p2 := 44) (a' := ([(0, am_R 32 i0), (1, am_I v1), (2, am_I v2), (3, am_I v3)], ([], (z, q8.2)))) rfl (fun c_9 => ?_) (fun c_9 => ?_)
          · refine to_gd 3 52 (c := am_inB v2 5 = true) (pc' := 53) (a' := ([(0, am_R 32 i0), (1, am_I v1), (2, am_I v2), (3, am_I v3)], ([am_I (xA q8.2 53 0 (Int32.toNatClampNeg v2))], (z, q8.2)))) rfl rfl (fun c_10 => ?_)
            refine to_if 2 (c := ¬ (xA q8.2 53 0 (Int32.toNatClampNeg v2)) = (12 : Int32)) (p1 := 61) (p2 := 58) (a' := ([(0, am_R 32 i0), (1, am_I v1), (2, am_I v2), (3, am_I v3)], ([], (z, q8.2)))) rfl (fun c_11 => ?_) (fun c_11 => ?_)
            · refine to_go 4 (pc' := 65) (a' := ([(0, am_R 32 i0), (1, am_I v1), (2, am_I v2), (3, am_I v3)], ([am_I v3, am_I (1 : Int32), am_I v1, am_R 32 i0], (z, q8.2)))) rfl ?_
              refine to_cl 3 (lv := [(0, am_R 32 i0), (1, am_I v1), (2, am_I v2), (3, am_I v3)]) (st := []) (M := (z, q8.2)) (cb := (cvI1 z)) rfl (fun q hq => t_X9_take (by omega) hq) (fun q12 => ?_)
              refine to_go 4 (pc' := 76) (a' := ([(4, am_I q12.1), (0, am_R 32 i0), (1, am_I v1), (2, am_I v2), (3, am_I v3)], ([am_I q12.1, am_I v2, am_R 32 i0], (z, q12.2)))) rfl ?_
              refine to_cl 1 (lv := [(4, am_I q12.1), (0, am_R 32 i0), (1, am_I v1), (2, am_I v2), (3, am_I v3)]) (st := []) (M := (z, q12.2)) (cb := (cvI1 z)) rfl (fun q hq => t_X9_give (by omega) hq) (fun q13 => ?_)
              refine to_gk 3 83 (c := ¬ (4 : Int32) = 0) (pc' := 84) (a' := ([(4, am_I q12.1), (0, am_R 32 i0), (1, am_I v1), (2, am_I v2), (3, am_I v3)], ([am_I (q12.1 / (4 : Int32))], (z, q13.2)))) rfl rfl (by decide) ?_
              exact to_rt 1 (r := ((q12.1 / (4 : Int32)), q13.2)) rfl
            · exact to_rt 2 (r := ((-104 : Int32), q8.2)) rfl
          · exact to_rt 2 (r := ((-103 : Int32), q8.2)) rfl
        · exact to_rt 2 (r := ((-101 : Int32), q6.2)) rfl
def b_X9_leave_66 (n : Nat) (h29 : Nat → Int32 → Int32 → Int32 → Int32 → am_X → Option (Int32 × am_X)) (i0 : Nat) (v1 : Int32) (v2 : Int32) (v4 : Int32) (s0 : Int32) (s1 : Int32) (x : am_X) : Option (Int32 × am_X) := h29 i0 v1 v2 (s0 + s1) (v4 + (1 : Int32)) x
theorem tb_X9_leave_66 {n : Nat} {h29 : Nat → Int32 → Int32 → Int32 → Int32 → am_X → Option (Int32 × am_X)} {d : Nat} {z : am_X} (hd : 3 ≤ d) (hh29 : ∀ (i0 : Nat) (v1 : Int32) (v2 : Int32) (v3 : Int32) (v4 : Int32) (x : am_X), am_To d (am_tab pX9_leave) 29 ([(0, am_R 32 i0), (1, am_I v1), (2, am_I v2), (3, am_I v3), (4, am_I v4)], ([], (z, x))) (cvI1 z) (h29 i0 v1 v2 v3 v4 x)) (i0 : Nat) (v1 : Int32) (v2 : Int32) (v4 : Int32) (s0 : Int32) (s1 : Int32) (x : am_X) : am_To d (am_tab pX9_leave) 66 ([(0, am_R 32 i0), (1, am_I v1), (2, am_I v2), (4, am_I v4)], ([am_I s1, am_I s0], (z, x))) (cvI1 z) (b_X9_leave_66 n h29 i0 v1 v2 v4 s0 s1 x) := by
  unfold b_X9_leave_66
  refine to_go 4 (pc' := 29) (a' := ([(4, am_I (v4 + (1 : Int32))), (3, am_I (s0 + s1)), (0, am_R 32 i0), (1, am_I v1), (2, am_I v2)], ([], (z, x)))) rfl ?_
  refine to_fg [2, 3, 4, 1, 0] (lv' := [(0, am_R 32 i0), (1, am_I v1), (2, am_I v2), (3, am_I (s0 + s1)), (4, am_I (v4 + (1 : Int32)))]) rfl ?_
  exact hh29 i0 v1 v2 (s0 + s1) (v4 + (1 : Int32)) x
def b_X9_leave_29 (n : Nat) : Nat → Nat → Int32 → Int32 → Int32 → Int32 → am_X → Option (Int32 × am_X)
  | 0, _, _, _, _, _, _ => none
  | k + 1, i0, v1, v2, v3, v4, x => if am_inB v1 5 = true then (if (xA x 53 0 (Int32.toNatClampNeg v1)) ≤ v4 then (if am_inB v1 5 = true then (if am_inB v1 5 = true then (if am_inB v1 5 = true then (some (v3, (sA (sA (sA x 53 0 (Int32.toNatClampNeg v1) (0 : Int32)) 50 0 (Int32.toNatClampNeg v1) (0 : Int32)) 52 0 (Int32.toNatClampNeg v1) (1 : Int32)))) else none) else none) else none) else (if am_inB (((12 : Int32) * v1) + v4) 60 = true then ((f_X9_give n i0 v2 (xA x 54 0 (Int32.toNatClampNeg (((12 : Int32) * v1) + v4))) x).bind fun q7 => if q7.1 = 0 then (b_X9_leave_66 n (b_X9_leave_29 n k) i0 v1 v2 v4 v3 (0 : Int32) q7.2) else (b_X9_leave_66 n (b_X9_leave_29 n k) i0 v1 v2 v4 v3 (1 : Int32) q7.2)) else none)) else none
theorem tb_X9_leave_29 {n : Nat} {d : Nat} {z : am_X} (hd : 3 ≤ d) : ∀ (k : Nat) (i0 : Nat) (v1 : Int32) (v2 : Int32) (v3 : Int32) (v4 : Int32) (x : am_X), am_To d (am_tab pX9_leave) 29 ([(0, am_R 32 i0), (1, am_I v1), (2, am_I v2), (3, am_I v3), (4, am_I v4)], ([], (z, x))) (cvI1 z) (b_X9_leave_29 n k i0 v1 v2 v3 v4 x) := by
  intro k
  induction k with
  | zero =>
    intro i0 v1 v2 v3 v4 x
    exact to_0
  | succ k ih =>
    intro i0 v1 v2 v3 v4 x
    rw [b_X9_leave_29]
    refine to_go 4 (pc' := 36) (a' := ([(0, am_R 32 i0), (1, am_I v1), (2, am_I v2), (3, am_I v3), (4, am_I v4)], ([am_I v1, am_R 53 0, am_I v4], (z, x)))) rfl ?_
    refine to_gd 0 36 (c := am_inB v1 5 = true) (pc' := 37) (a' := ([(0, am_R 32 i0), (1, am_I v1), (2, am_I v2), (3, am_I v3), (4, am_I v4)], ([am_I (xA x 53 0 (Int32.toNatClampNeg v1)), am_I v4], (z, x)))) rfl rfl (fun c_1 => ?_)
    refine to_if 1 (c := (xA x 53 0 (Int32.toNatClampNeg v1)) ≤ v4) (p1 := 74) (p2 := 40) (a' := ([(0, am_R 32 i0), (1, am_I v1), (2, am_I v2), (3, am_I v3), (4, am_I v4)], ([], (z, x)))) rfl (fun c_2 => ?_) (fun c_2 => ?_)
    · refine to_go 4 (pc' := 80) (a' := ([(0, am_R 32 i0), (1, am_I v1), (2, am_I v2), (3, am_I v3), (4, am_I v4)], ([am_I (0 : Int32), am_I v1, am_R 53 0], (z, x)))) rfl ?_
      refine to_gd 0 80 (c := am_inB v1 5 = true) (pc' := 81) (a' := ([(0, am_R 32 i0), (1, am_I v1), (2, am_I v2), (3, am_I v3), (4, am_I v4)], ([], (z, (sA x 53 0 (Int32.toNatClampNeg v1) (0 : Int32)))))) rfl rfl (fun c_3 => ?_)
      refine to_go 4 (pc' := 87) (a' := ([(0, am_R 32 i0), (1, am_I v1), (2, am_I v2), (3, am_I v3), (4, am_I v4)], ([am_I (0 : Int32), am_I v1, am_R 50 0], (z, (sA x 53 0 (Int32.toNatClampNeg v1) (0 : Int32)))))) rfl ?_
      refine to_gd 0 87 (c := am_inB v1 5 = true) (pc' := 88) (a' := ([(0, am_R 32 i0), (1, am_I v1), (2, am_I v2), (3, am_I v3), (4, am_I v4)], ([], (z, (sA (sA x 53 0 (Int32.toNatClampNeg v1) (0 : Int32)) 50 0 (Int32.toNatClampNeg v1) (0 : Int32)))))) rfl rfl (fun c_4 => ?_)
      refine to_go 4 (pc' := 94) (a' := ([(0, am_R 32 i0), (1, am_I v1), (2, am_I v2), (3, am_I v3), (4, am_I v4)], ([am_I (1 : Int32), am_I v1, am_R 52 0], (z, (sA (sA x 53 0 (Int32.toNatClampNeg v1) (0 : Int32)) 50 0 (Int32.toNatClampNeg v1) (0 : Int32)))))) rfl ?_
      refine to_gd 0 94 (c := am_inB v1 5 = true) (pc' := 95) (a' := ([(0, am_R 32 i0), (1, am_I v1), (2, am_I v2), (3, am_I v3), (4, am_I v4)], ([], (z, (sA (sA (sA x 53 0 (Int32.toNatClampNeg v1) (0 : Int32)) 50 0 (Int32.toNatClampNeg v1) (0 : Int32)) 52 0 (Int32.toNatClampNeg v1) (1 : Int32)))))) rfl rfl (fun c_5 => ?_)
      exact to_rt 2 (r := (v3, (sA (sA (sA x 53 0 (Int32.toNatClampNeg v1) (0 : Int32)) 50 0 (Int32.toNatClampNeg v1) (0 : Int32)) 52 0 (Int32.toNatClampNeg v1) (1 : Int32)))) rfl
    · refine to_go 4 (pc' := 44) (a' := ([(0, am_R 32 i0), (1, am_I v1), (2, am_I v2), (3, am_I v3), (4, am_I v4)], ([am_R 32 i0, am_I v2, am_R 32 i0, am_I v3], (z, x)))) rfl ?_
      refine to_go 4 (pc' := 51) (a' := ([(0, am_R 32 i0), (1, am_I v1), (2, am_I v2), (3, am_I v3), (4, am_I v4)], ([am_I ((12 : Int32) * v1), am_R 54 0, am_I v2, am_R 32 i0, am_I v3], (z, x)))) rfl ?_
      refine to_gd 2 54 (c := am_inB (((12 : Int32) * v1) + v4) 60 = true) (pc' := 55) (a' := ([(0, am_R 32 i0), (1, am_I v1), (2, am_I v2), (3, am_I v3), (4, am_I v4)], ([am_I (xA x 54 0 (Int32.toNatClampNeg (((12 : Int32) * v1) + v4))), am_I v2, am_R 32 i0, am_I v3], (z, x)))) rfl rfl (fun c_6 => ?_)
      refine to_cl 1 (lv := [(0, am_R 32 i0), (1, am_I v1), (2, am_I v2), (3, am_I v3), (4, am_I v4)]) (st := [am_I v3]) (M := (z, x)) (cb := (cvI1 z)) rfl (fun q hq => t_X9_give (by omega) hq) (fun q7 => ?_)
      refine to_if 1 (c := q7.1 = 0) (p1 := 65) (p2 := 61) (a' := ([(0, am_R 32 i0), (1, am_I v1), (2, am_I v2), (3, am_I v3), (4, am_I v4)], ([am_I v3], (z, q7.2)))) rfl (fun c_8 => ?_) (fun c_8 => ?_)
      · refine to_go 1 (pc' := 66) (a' := ([(0, am_R 32 i0), (1, am_I v1), (2, am_I v2), (3, am_I v3), (4, am_I v4)], ([am_I (0 : Int32), am_I v3], (z, q7.2)))) rfl ?_
        refine to_fg [0, 1, 2, 4] (lv' := [(0, am_R 32 i0), (1, am_I v1), (2, am_I v2), (4, am_I v4)]) rfl ?_
        exact tb_X9_leave_66 (by omega) ih  i0 v1 v2 v4 v3 (0 : Int32) q7.2
      · refine to_go 2 (pc' := 66) (a' := ([(0, am_R 32 i0), (1, am_I v1), (2, am_I v2), (3, am_I v3), (4, am_I v4)], ([am_I (1 : Int32), am_I v3], (z, q7.2)))) rfl ?_
        refine to_fg [0, 1, 2, 4] (lv' := [(0, am_R 32 i0), (1, am_I v1), (2, am_I v2), (4, am_I v4)]) rfl ?_
        exact tb_X9_leave_66 (by omega) ih  i0 v1 v2 v4 v3 (1 : Int32) q7.2
def f_X9_leave (n : Nat) (i0 : Nat) (v1 : Int32) (v2 : Int32) (x : am_X) : Option (Int32 × am_X) := (f_X9_isPerson n i0 v1 x).bind fun q1 => if q1.1 = 0 then (some ((-101 : Int32), q1.2)) else ((f_X9_isPerson n i0 v2 q1.2).bind fun q3 => if q3.1 = 0 then (some ((-101 : Int32), q3.2)) else (if ¬ v1 = v2 then (b_X9_leave_29 n n i0 v1 v2 (0 : Int32) (0 : Int32) q3.2) else (some ((-101 : Int32), q3.2))))
theorem t_X9_leave {n : Nat} {d : Nat} {i0 : Nat} {v1 : Int32} {v2 : Int32} {x z : am_X} {q : Int32 × am_X} (hd : 4 ≤ d) (h : f_X9_leave n i0 v1 v2 x = some q) : am_Ev am_PR d 144 [am_R 32 i0, am_I v1, am_I v2] (z, x) (cvI1 z q) := by
  obtain ⟨d, rfl⟩ : ∃ e, d = e + 1 := ⟨d - 1, by omega⟩
  refine to_ev (P := (am_tab pX9_leave)) rfl (lv := [(0, am_R 32 i0), (1, am_I v1), (2, am_I v2)]) rfl ?_ q h
  unfold f_X9_leave
  refine to_cl 3 (lv := [(0, am_R 32 i0), (1, am_I v1), (2, am_I v2)]) (st := []) (M := (z, x)) (cb := (cvI1 z)) rfl (fun q hq => t_X9_isPerson (by omega) hq) (fun q1 => ?_)
  refine to_if 1 (c := q1.1 = 0) (p1 := 21) (p2 := 8) (a' := ([(0, am_R 32 i0), (1, am_I v1), (2, am_I v2)], ([], (z, q1.2)))) rfl (fun c_2 => ?_) (fun c_2 => ?_)
  · exact to_rt 2 (r := ((-101 : Int32), q1.2)) rfl
  · refine to_cl 3 (lv := [(0, am_R 32 i0), (1, am_I v1), (2, am_I v2)]) (st := []) (M := (z, q1.2)) (cb := (cvI1 z)) rfl (fun q hq => t_X9_isPerson (by omega) hq) (fun q3 => ?_)
    refine to_if 1 (c := q3.1 = 0) (p1 := 21) (p2 := 16) (a' := ([(0, am_R 32 i0), (1, am_I v1), (2, am_I v2)], ([], (z, q3.2)))) rfl (fun c_4 => ?_) (fun c_4 => ?_)
    · exact to_rt 2 (r := ((-101 : Int32), q3.2)) rfl
    · refine to_if 3 (c := ¬ v1 = v2) (p1 := 24) (p2 := 21) (a' := ([(0, am_R 32 i0), (1, am_I v1), (2, am_I v2)], ([], (z, q3.2)))) rfl (fun c_5 => ?_) (fun c_5 => ?_)
      · refine to_go 4 (pc' := 29) (a' := ([(4, am_I (0 : Int32)), (3, am_I (0 : Int32)), (0, am_R 32 i0), (1, am_I v1), (2, am_I v2)], ([], (z, q3.2)))) rfl ?_
        refine to_fg [2, 3, 4, 1, 0] (lv' := [(0, am_R 32 i0), (1, am_I v1), (2, am_I v2), (3, am_I (0 : Int32)), (4, am_I (0 : Int32))]) rfl ?_
        exact tb_X9_leave_29 (by omega)  n i0 v1 v2 (0 : Int32) (0 : Int32) q3.2
      · exact to_rt 2 (r := ((-101 : Int32), q3.2)) rfl
def b_X9_owesAll_4 (n : Nat) : Nat → Nat → Int32 → Int32 → am_X → Option (Int32 × am_X)
  | 0, _, _, _, _ => none
  | k + 1, i0, v1, v2, x => if (xF x 32 7 i0) ≤ v2 then (some (v1, x)) else (if am_inB v2 5 = true then (b_X9_owesAll_4 n k i0 (v1 + (xA x 50 0 (Int32.toNatClampNeg v2))) (v2 + (1 : Int32)) x) else none)
theorem tb_X9_owesAll_4 {n : Nat} {d : Nat} {z : am_X} (hd : 0 ≤ d) : ∀ (k : Nat) (i0 : Nat) (v1 : Int32) (v2 : Int32) (x : am_X), am_To d (am_tab pX9_owesAll) 4 ([(0, am_R 32 i0), (1, am_I v1), (2, am_I v2)], ([], (z, x))) (cvI1 z) (b_X9_owesAll_4 n k i0 v1 v2 x) := by
  intro k
  induction k with
  | zero =>
    intro i0 v1 v2 x
    exact to_0
  | succ k ih =>
    intro i0 v1 v2 x
    rw [b_X9_owesAll_4]
    refine to_if 4 (c := (xF x 32 7 i0) ≤ v2) (p1 := 27) (p2 := 12) (a' := ([(0, am_R 32 i0), (1, am_I v1), (2, am_I v2)], ([], (z, x)))) rfl (fun c_1 => ?_) (fun c_1 => ?_)
    · exact to_rt 2 (r := (v1, x)) rfl
    · refine to_go 4 (pc' := 18) (a' := ([(0, am_R 32 i0), (1, am_I v1), (2, am_I v2)], ([am_I v2, am_R 50 0, am_I v1], (z, x)))) rfl ?_
      refine to_gd 0 18 (c := am_inB v2 5 = true) (pc' := 19) (a' := ([(0, am_R 32 i0), (1, am_I v1), (2, am_I v2)], ([am_I (xA x 50 0 (Int32.toNatClampNeg v2)), am_I v1], (z, x)))) rfl rfl (fun c_2 => ?_)
      refine to_go 4 (pc' := 4) (a' := ([(2, am_I (v2 + (1 : Int32))), (1, am_I (v1 + (xA x 50 0 (Int32.toNatClampNeg v2)))), (0, am_R 32 i0)], ([], (z, x)))) rfl ?_
      refine to_fg [2, 1, 0] (lv' := [(0, am_R 32 i0), (1, am_I (v1 + (xA x 50 0 (Int32.toNatClampNeg v2)))), (2, am_I (v2 + (1 : Int32)))]) rfl ?_
      exact ih i0 (v1 + (xA x 50 0 (Int32.toNatClampNeg v2))) (v2 + (1 : Int32)) x
def f_X9_owesAll (n : Nat) (i0 : Nat) (x : am_X) : Option (Int32 × am_X) := b_X9_owesAll_4 n n i0 (0 : Int32) (0 : Int32) x
theorem t_X9_owesAll {n : Nat} {d : Nat} {i0 : Nat} {x z : am_X} {q : Int32 × am_X} (hd : 1 ≤ d) (h : f_X9_owesAll n i0 x = some q) : am_Ev am_PR d 145 [am_R 32 i0] (z, x) (cvI1 z q) := by
  obtain ⟨d, rfl⟩ : ∃ e, d = e + 1 := ⟨d - 1, by omega⟩
  refine to_ev (P := (am_tab pX9_owesAll)) rfl (lv := [(0, am_R 32 i0)]) rfl ?_ q h
  unfold f_X9_owesAll
  refine to_go 4 (pc' := 4) (a' := ([(2, am_I (0 : Int32)), (1, am_I (0 : Int32)), (0, am_R 32 i0)], ([], (z, x)))) rfl ?_
  refine to_fg [2, 1, 0] (lv' := [(0, am_R 32 i0), (1, am_I (0 : Int32)), (2, am_I (0 : Int32))]) rfl ?_
  exact tb_X9_owesAll_4 (by omega)  n i0 (0 : Int32) (0 : Int32) x
def b_X9_amnesty_7 (n : Nat) : Nat → Nat → Int32 → Int32 → am_X → Option (Int32 × am_X)
  | 0, _, _, _, _ => none
  | k + 1, i0, v1, v2, x => if (xF x 32 7 i0) ≤ v2 then (some (v1, x)) else (if am_inB v2 5 = true then (b_X9_amnesty_7 n k i0 v1 (v2 + (1 : Int32)) (sA x 50 0 (Int32.toNatClampNeg v2) (0 : Int32))) else none)
theorem tb_X9_amnesty_7 {n : Nat} {d : Nat} {z : am_X} (hd : 1 ≤ d) : ∀ (k : Nat) (i0 : Nat) (v1 : Int32) (v2 : Int32) (x : am_X), am_To d (am_tab pX9_amnesty) 7 ([(0, am_R 32 i0), (1, am_I v1), (2, am_I v2)], ([], (z, x))) (cvI1 z) (b_X9_amnesty_7 n k i0 v1 v2 x) := by
  intro k
  induction k with
  | zero =>
    intro i0 v1 v2 x
    exact to_0
  | succ k ih =>
    intro i0 v1 v2 x
    rw [b_X9_amnesty_7]
    refine to_if 4 (c := (xF x 32 7 i0) ≤ v2) (p1 := 28) (p2 := 15) (a' := ([(0, am_R 32 i0), (1, am_I v1), (2, am_I v2)], ([], (z, x)))) rfl (fun c_1 => ?_) (fun c_1 => ?_)
    · exact to_rt 2 (r := (v1, x)) rfl
    · refine to_go 4 (pc' := 21) (a' := ([(0, am_R 32 i0), (1, am_I v1), (2, am_I v2)], ([am_I (0 : Int32), am_I v2, am_R 50 0], (z, x)))) rfl ?_
      refine to_gd 0 21 (c := am_inB v2 5 = true) (pc' := 22) (a' := ([(0, am_R 32 i0), (1, am_I v1), (2, am_I v2)], ([], (z, (sA x 50 0 (Int32.toNatClampNeg v2) (0 : Int32)))))) rfl rfl (fun c_2 => ?_)
      refine to_go 2 (pc' := 7) (a' := ([(2, am_I (v2 + (1 : Int32))), (0, am_R 32 i0), (1, am_I v1)], ([], (z, (sA x 50 0 (Int32.toNatClampNeg v2) (0 : Int32)))))) rfl ?_
      refine to_fg [1, 2, 0] (lv' := [(0, am_R 32 i0), (1, am_I v1), (2, am_I (v2 + (1 : Int32)))]) rfl ?_
      exact ih i0 v1 (v2 + (1 : Int32)) (sA x 50 0 (Int32.toNatClampNeg v2) (0 : Int32))
def f_X9_amnesty (n : Nat) (i0 : Nat) (x : am_X) : Option (Int32 × am_X) := (f_X9_owesAll n i0 x).bind fun q1 => b_X9_amnesty_7 n n i0 q1.1 (0 : Int32) q1.2
theorem t_X9_amnesty {n : Nat} {d : Nat} {i0 : Nat} {x z : am_X} {q : Int32 × am_X} (hd : 2 ≤ d) (h : f_X9_amnesty n i0 x = some q) : am_Ev am_PR d 146 [am_R 32 i0] (z, x) (cvI1 z q) := by
  obtain ⟨d, rfl⟩ : ∃ e, d = e + 1 := ⟨d - 1, by omega⟩
  refine to_ev (P := (am_tab pX9_amnesty)) rfl (lv := [(0, am_R 32 i0)]) rfl ?_ q h
  unfold f_X9_amnesty
  refine to_cl 2 (lv := [(0, am_R 32 i0)]) (st := []) (M := (z, x)) (cb := (cvI1 z)) rfl (fun q hq => t_X9_owesAll (by omega) hq) (fun q1 => ?_)
  refine to_go 3 (pc' := 7) (a' := ([(2, am_I (0 : Int32)), (1, am_I q1.1), (0, am_R 32 i0)], ([], (z, q1.2)))) rfl ?_
  refine to_fg [2, 1, 0] (lv' := [(0, am_R 32 i0), (1, am_I q1.1), (2, am_I (0 : Int32))]) rfl ?_
  exact tb_X9_amnesty_7 (by omega)  n i0 q1.1 (0 : Int32) q1.2
def b_X9_copy_50 (n : Nat) : Nat → Nat → Int32 → Int32 → Int32 → am_X → Option (am_X)
  | 0, _, _, _, _, _ => none
  | k + 1, i0, v1, v2, v3, x => if (12 : Int32) ≤ v3 then (some x) else (if am_inB (((12 : Int32) * v1) + v3) 60 = true then (if am_inB (((12 : Int32) * v2) + v3) 60 = true then (b_X9_copy_50 n k i0 v1 v2 (v3 + (1 : Int32)) (sA x 54 0 (Int32.toNatClampNeg (((12 : Int32) * v2) + v3)) (xA x 54 0 (Int32.toNatClampNeg (((12 : Int32) * v1) + v3))))) else none) else none)
theorem tb_X9_copy_50 {n : Nat} {d : Nat} {z : am_X} (hd : 0 ≤ d) : ∀ (k : Nat) (i0 : Nat) (v1 : Int32) (v2 : Int32) (v3 : Int32) (x : am_X), am_To d (am_tab pX9_copy) 50 ([(0, am_R 32 i0), (1, am_I v1), (2, am_I v2), (3, am_I v3)], ([], (z, x))) (cvV1 z) (b_X9_copy_50 n k i0 v1 v2 v3 x) := by
  intro k
  induction k with
  | zero =>
    intro i0 v1 v2 v3 x
    exact to_0
  | succ k ih =>
    intro i0 v1 v2 v3 x
    rw [b_X9_copy_50]
    refine to_if 3 (c := (12 : Int32) ≤ v3) (p1 := 84) (p2 := 56) (a' := ([(0, am_R 32 i0), (1, am_I v1), (2, am_I v2), (3, am_I v3)], ([], (z, x)))) rfl (fun c_1 => ?_) (fun c_1 => ?_)
    · exact to_rt 1 rfl
    · refine to_go 4 (pc' := 63) (a' := ([(0, am_R 32 i0), (1, am_I v1), (2, am_I v2), (3, am_I v3)], ([am_I v2, am_I (12 : Int32), am_R 54 0], (z, x)))) rfl ?_
      refine to_go 4 (pc' := 67) (a' := ([(0, am_R 32 i0), (1, am_I v1), (2, am_I v2), (3, am_I v3)], ([am_R 32 i0, am_I (((12 : Int32) * v2) + v3), am_R 54 0], (z, x)))) rfl ?_
      refine to_go 4 (pc' := 74) (a' := ([(0, am_R 32 i0), (1, am_I v1), (2, am_I v2), (3, am_I v3)], ([am_I ((12 : Int32) * v1), am_R 54 0, am_I (((12 : Int32) * v2) + v3), am_R 54 0], (z, x)))) rfl ?_
      refine to_gd 2 76 (c := am_inB (((12 : Int32) * v1) + v3) 60 = true) (pc' := 77) (a' := ([(0, am_R 32 i0), (1, am_I v1), (2, am_I v2), (3, am_I v3)], ([am_I (xA x 54 0 (Int32.toNatClampNeg (((12 : Int32) * v1) + v3))), am_I (((12 : Int32) * v2) + v3), am_R 54 0], (z, x)))) rfl rfl (fun c_2 => ?_)
      refine to_gd 0 77 (c := am_inB (((12 : Int32) * v2) + v3) 60 = true) (pc' := 78) (a' := ([(0, am_R 32 i0), (1, am_I v1), (2, am_I v2), (3, am_I v3)], ([], (z, (sA x 54 0 (Int32.toNatClampNeg (((12 : Int32) * v2) + v3)) (xA x 54 0 (Int32.toNatClampNeg (((12 : Int32) * v1) + v3)))))))) rfl rfl (fun c_3 => ?_)
      refine to_go 2 (pc' := 50) (a' := ([(3, am_I (v3 + (1 : Int32))), (0, am_R 32 i0), (1, am_I v1), (2, am_I v2)], ([], (z, (sA x 54 0 (Int32.toNatClampNeg (((12 : Int32) * v2) + v3)) (xA x 54 0 (Int32.toNatClampNeg (((12 : Int32) * v1) + v3)))))))) rfl ?_
      refine to_fg [1, 2, 3, 0] (lv' := [(0, am_R 32 i0), (1, am_I v1), (2, am_I v2), (3, am_I (v3 + (1 : Int32)))]) rfl ?_
      exact ih i0 v1 v2 (v3 + (1 : Int32)) (sA x 54 0 (Int32.toNatClampNeg (((12 : Int32) * v2) + v3)) (xA x 54 0 (Int32.toNatClampNeg (((12 : Int32) * v1) + v3))))
def f_X9_copy (n : Nat) (i0 : Nat) (v1 : Int32) (v2 : Int32) (x : am_X) : Option (am_X) := if am_inB v1 5 = true then (if am_inB v2 5 = true then (if am_inB v1 5 = true then (if am_inB v2 5 = true then (if am_inB v1 5 = true then (if am_inB v2 5 = true then (if am_inB v1 5 = true then (if am_inB v2 5 = true then (b_X9_copy_50 n n i0 v1 v2 (0 : Int32) (sA (sA (sA (sA x 48 0 (Int32.toNatClampNeg v2) (xA x 48 0 (Int32.toNatClampNeg v1))) 49 0 (Int32.toNatClampNeg v2) (xA x 49 0 (Int32.toNatClampNeg v1))) 50 0 (Int32.toNatClampNeg v2) (xA x 50 0 (Int32.toNatClampNeg v1))) 53 0 (Int32.toNatClampNeg v2) (xA x 53 0 (Int32.toNatClampNeg v1)))) else none) else none) else none) else none) else none) else none) else none) else none
theorem t_X9_copy {n : Nat} {d : Nat} {i0 : Nat} {v1 : Int32} {v2 : Int32} {x z : am_X} {q : am_X} (hd : 1 ≤ d) (h : f_X9_copy n i0 v1 v2 x = some q) : am_Ev am_PR d 147 [am_R 32 i0, am_I v1, am_I v2] (z, x) (cvV1 z q) := by
  obtain ⟨d, rfl⟩ : ∃ e, d = e + 1 := ⟨d - 1, by omega⟩
  refine to_ev (P := (am_tab pX9_copy)) rfl (lv := [(0, am_R 32 i0), (1, am_I v1), (2, am_I v2)]) rfl ?_ q h
  unfold f_X9_copy
  refine to_go 4 (pc' := 6) (a' := ([(0, am_R 32 i0), (1, am_I v1), (2, am_I v2)], ([am_R 32 i0, am_I v2, am_R 48 0], (z, x)))) rfl ?_
  refine to_gd 2 10 (c := am_inB v1 5 = true) (pc' := 11) (a' := ([(0, am_R 32 i0), (1, am_I v1), (2, am_I v2)], ([am_I (xA x 48 0 (Int32.toNatClampNeg v1)), am_I v2, am_R 48 0], (z, x)))) rfl rfl (fun c_1 => ?_)
  refine to_gd 0 11 (c := am_inB v2 5 = true) (pc' := 12) (a' := ([(0, am_R 32 i0), (1, am_I v1), (2, am_I v2)], ([], (z, (sA x 48 0 (Int32.toNatClampNeg v2) (xA x 48 0 (Int32.toNatClampNeg v1))))))) rfl rfl (fun c_2 => ?_)
  refine to_go 4 (pc' := 18) (a' := ([(0, am_R 32 i0), (1, am_I v1), (2, am_I v2)], ([am_R 32 i0, am_I v2, am_R 49 0], (z, (sA x 48 0 (Int32.toNatClampNeg v2) (xA x 48 0 (Int32.toNatClampNeg v1))))))) rfl ?_
  refine to_gd 2 22 (c := am_inB v1 5 = true) (pc' := 23) (a' := ([(0, am_R 32 i0), (1, am_I v1), (2, am_I v2)], ([am_I (xA x 49 0 (Int32.toNatClampNeg v1)), am_I v2, am_R 49 0], (z, (sA x 48 0 (Int32.toNatClampNeg v2) (xA x 48 0 (Int32.toNatClampNeg v1))))))) rfl rfl (fun c_3 => ?_)
  refine to_gd 0 23 (c := am_inB v2 5 = true) (pc' := 24) (a' := ([(0, am_R 32 i0), (1, am_I v1), (2, am_I v2)], ([], (z, (sA (sA x 48 0 (Int32.toNatClampNeg v2) (xA x 48 0 (Int32.toNatClampNeg v1))) 49 0 (Int32.toNatClampNeg v2) (xA x 49 0 (Int32.toNatClampNeg v1))))))) rfl rfl (fun c_4 => ?_)
  refine to_go 4 (pc' := 30) (a' := ([(0, am_R 32 i0), (1, am_I v1), (2, am_I v2)], ([am_R 32 i0, am_I v2, am_R 50 0], (z, (sA (sA x 48 0 (Int32.toNatClampNeg v2) (xA x 48 0 (Int32.toNatClampNeg v1))) 49 0 (Int32.toNatClampNeg v2) (xA x 49 0 (Int32.toNatClampNeg v1))))))) rfl ?_
  refine to_gd 2 34 (c := am_inB v1 5 = true) (pc' := 35) (a' := ([(0, am_R 32 i0), (1, am_I v1), (2, am_I v2)], ([am_I (xA x 50 0 (Int32.toNatClampNeg v1)), am_I v2, am_R 50 0], (z, (sA (sA x 48 0 (Int32.toNatClampNeg v2) (xA x 48 0 (Int32.toNatClampNeg v1))) 49 0 (Int32.toNatClampNeg v2) (xA x 49 0 (Int32.toNatClampNeg v1))))))) rfl rfl (fun c_5 => ?_)
  refine to_gd 0 35 (c := am_inB v2 5 = true) (pc' := 36) (a' := ([(0, am_R 32 i0), (1, am_I v1), (2, am_I v2)], ([], (z, (sA (sA (sA x 48 0 (Int32.toNatClampNeg v2) (xA x 48 0 (Int32.toNatClampNeg v1))) 49 0 (Int32.toNatClampNeg v2) (xA x 49 0 (Int32.toNatClampNeg v1))) 50 0 (Int32.toNatClampNeg v2) (xA x 50 0 (Int32.toNatClampNeg v1))))))) rfl rfl (fun c_6 => ?_)
  refine to_go 4 (pc' := 42) (a' := ([(0, am_R 32 i0), (1, am_I v1), (2, am_I v2)], ([am_R 32 i0, am_I v2, am_R 53 0], (z, (sA (sA (sA x 48 0 (Int32.toNatClampNeg v2) (xA x 48 0 (Int32.toNatClampNeg v1))) 49 0 (Int32.toNatClampNeg v2) (xA x 49 0 (Int32.toNatClampNeg v1))) 50 0 (Int32.toNatClampNeg v2) (xA x 50 0 (Int32.toNatClampNeg v1))))))) rfl ?_
  refine to_gd 2 46 (c := am_inB v1 5 = true) (pc' := 47) (a' := ([(0, am_R 32 i0), (1, am_I v1), (2, am_I v2)], ([am_I (xA x 53 0 (Int32.toNatClampNeg v1)), am_I v2, am_R 53 0], (z, (sA (sA (sA x 48 0 (Int32.toNatClampNeg v2) (xA x 48 0 (Int32.toNatClampNeg v1))) 49 0 (Int32.toNatClampNeg v2) (xA x 49 0 (Int32.toNatClampNeg v1))) 50 0 (Int32.toNatClampNeg v2) (xA x 50 0 (Int32.toNatClampNeg v1))))))) rfl rfl (fun c_7 => ?_)
  refine to_gd 0 47 (c := am_inB v2 5 = true) (pc' := 48) (a' := ([(0, am_R 32 i0), (1, am_I v1), (2, am_I v2)], ([], (z, (sA (sA (sA (sA x 48 0 (Int32.toNatClampNeg v2) (xA x 48 0 (Int32.toNatClampNeg v1))) 49 0 (Int32.toNatClampNeg v2) (xA x 49 0 (Int32.toNatClampNeg v1))) 50 0 (Int32.toNatClampNeg v2) (xA x 50 0 (Int32.toNatClampNeg v1))) 53 0 (Int32.toNatClampNeg v2) (xA x 53 0 (Int32.toNatClampNeg v1))))))) rfl rfl (fun c_8 => ?_)
  refine to_go 2 (pc' := 50) (a' := ([(3, am_I (0 : Int32)), (0, am_R 32 i0), (1, am_I v1), (2, am_I v2)], ([], (z, (sA (sA (sA (sA x 48 0 (Int32.toNatClampNeg v2) (xA x 48 0 (Int32.toNatClampNeg v1))) 49 0 (Int32.toNatClampNeg v2) (xA x 49 0 (Int32.toNatClampNeg v1))) 50 0 (Int32.toNatClampNeg v2) (xA x 50 0 (Int32.toNatClampNeg v1))) 53 0 (Int32.toNatClampNeg v2) (xA x 53 0 (Int32.toNatClampNeg v1))))))) rfl ?_
  refine to_fg [1, 2, 3, 0] (lv' := [(0, am_R 32 i0), (1, am_I v1), (2, am_I v2), (3, am_I (0 : Int32))]) rfl ?_
  exact tb_X9_copy_50 (by omega)  n i0 v1 v2 (0 : Int32) (sA (sA (sA (sA x 48 0 (Int32.toNatClampNeg v2) (xA x 48 0 (Int32.toNatClampNeg v1))) 49 0 (Int32.toNatClampNeg v2) (xA x 49 0 (Int32.toNatClampNeg v1))) 50 0 (Int32.toNatClampNeg v2) (xA x 50 0 (Int32.toNatClampNeg v1))) 53 0 (Int32.toNatClampNeg v2) (xA x 53 0 (Int32.toNatClampNeg v1)))
def b_X9_keepRow_45 (n : Nat) : Nat → Nat → Int32 → Int32 → am_X → Option (am_X)
  | 0, _, _, _, _ => none
  | k + 1, i0, v1, v2, x => if (12 : Int32) ≤ v2 then (some x) else (if am_inB ((48 : Int32) + v2) 60 = true then (if am_inB (((12 : Int32) * v1) + v2) 96 = true then (b_X9_keepRow_45 n k i0 v1 (v2 + (1 : Int32)) (sA x 68 0 (Int32.toNatClampNeg (((12 : Int32) * v1) + v2)) (xA x 54 0 (Int32.toNatClampNeg ((48 : Int32) + v2))))) else none) else none)
theorem tb_X9_keepRow_45 {n : Nat} {d : Nat} {z : am_X} (hd : 0 ≤ d) : ∀ (k : Nat) (i0 : Nat) (v1 : Int32) (v2 : Int32) (x : am_X), am_To d (am_tab pX9_keepRow) 45 ([(0, am_R 32 i0), (1, am_I v1), (2, am_I v2)], ([], (z, x))) (cvV1 z) (b_X9_keepRow_45 n k i0 v1 v2 x) := by
  intro k
  induction k with
  | zero =>
    intro i0 v1 v2 x
    exact to_0
  | succ k ih =>
    intro i0 v1 v2 x
    rw [b_X9_keepRow_45]
    refine to_if 3 (c := (12 : Int32) ≤ v2) (p1 := 77) (p2 := 51) (a' := ([(0, am_R 32 i0), (1, am_I v1), (2, am_I v2)], ([], (z, x)))) rfl (fun c_1 => ?_) (fun c_1 => ?_)
    · exact to_rt 1 rfl
    · refine to_go 4 (pc' := 58) (a' := ([(0, am_R 32 i0), (1, am_I v1), (2, am_I v2)], ([am_I v1, am_I (12 : Int32), am_R 68 0], (z, x)))) rfl ?_
      refine to_go 4 (pc' := 62) (a' := ([(0, am_R 32 i0), (1, am_I v1), (2, am_I v2)], ([am_R 32 i0, am_I (((12 : Int32) * v1) + v2), am_R 68 0], (z, x)))) rfl ?_
      refine to_go 4 (pc' := 69) (a' := ([(0, am_R 32 i0), (1, am_I v1), (2, am_I v2)], ([am_I ((48 : Int32) + v2), am_R 54 0, am_I (((12 : Int32) * v1) + v2), am_R 68 0], (z, x)))) rfl ?_
      refine to_gd 0 69 (c := am_inB ((48 : Int32) + v2) 60 = true) (pc' := 70) (a' := ([(0, am_R 32 i0), (1, am_I v1), (2, am_I v2)], ([am_I (xA x 54 0 (Int32.toNatClampNeg ((48 : Int32) + v2))), am_I (((12 : Int32) * v1) + v2), am_R 68 0], (z, x)))) rfl rfl (fun c_2 => ?_)
      refine to_gd 0 70 (c := am_inB (((12 : Int32) * v1) + v2) 96 = true) (pc' := 71) (a' := ([(0, am_R 32 i0), (1, am_I v1), (2, am_I v2)], ([], (z, (sA x 68 0 (Int32.toNatClampNeg (((12 : Int32) * v1) + v2)) (xA x 54 0 (Int32.toNatClampNeg ((48 : Int32) + v2)))))))) rfl rfl (fun c_3 => ?_)
      refine to_go 2 (pc' := 45) (a' := ([(2, am_I (v2 + (1 : Int32))), (0, am_R 32 i0), (1, am_I v1)], ([], (z, (sA x 68 0 (Int32.toNatClampNeg (((12 : Int32) * v1) + v2)) (xA x 54 0 (Int32.toNatClampNeg ((48 : Int32) + v2)))))))) rfl ?_
      refine to_fg [1, 2, 0] (lv' := [(0, am_R 32 i0), (1, am_I v1), (2, am_I (v2 + (1 : Int32)))]) rfl ?_
      exact ih i0 v1 (v2 + (1 : Int32)) (sA x 68 0 (Int32.toNatClampNeg (((12 : Int32) * v1) + v2)) (xA x 54 0 (Int32.toNatClampNeg ((48 : Int32) + v2))))
def f_X9_keepRow (n : Nat) (i0 : Nat) (v1 : Int32) (x : am_X) : Option (am_X) := if am_inB v1 8 = true then (if am_inB v1 8 = true then (if am_inB v1 8 = true then (if am_inB v1 8 = true then (b_X9_keepRow_45 n n i0 v1 (0 : Int32) (sA (sA (sA (sA x 65 0 (Int32.toNatClampNeg v1) (xA x 49 0 (Int32.toNatClampNeg (4 : Int32)))) 66 0 (Int32.toNatClampNeg v1) (xA x 50 0 (Int32.toNatClampNeg (4 : Int32)))) 67 0 (Int32.toNatClampNeg v1) (xA x 53 0 (Int32.toNatClampNeg (4 : Int32)))) 69 0 (Int32.toNatClampNeg v1) (0 : Int32))) else none) else none) else none) else none
theorem t_X9_keepRow {n : Nat} {d : Nat} {i0 : Nat} {v1 : Int32} {x z : am_X} {q : am_X} (hd : 1 ≤ d) (h : f_X9_keepRow n i0 v1 x = some q) : am_Ev am_PR d 148 [am_R 32 i0, am_I v1] (z, x) (cvV1 z q) := by
  obtain ⟨d, rfl⟩ : ∃ e, d = e + 1 := ⟨d - 1, by omega⟩
  refine to_ev (P := (am_tab pX9_keepRow)) rfl (lv := [(0, am_R 32 i0), (1, am_I v1)]) rfl ?_ q h
  unfold f_X9_keepRow
  refine to_go 4 (pc' := 6) (a' := ([(0, am_R 32 i0), (1, am_I v1)], ([am_R 32 i0, am_I v1, am_R 65 0], (z, x)))) rfl ?_
  refine to_gk 2 10 (c := am_inB (4 : Int32) 5 = true) (pc' := 11) (a' := ([(0, am_R 32 i0), (1, am_I v1)], ([am_I (xA x 49 0 (Int32.toNatClampNeg (4 : Int32))), am_I v1, am_R 65 0], (z, x)))) rfl rfl (by decide) ?_
  refine to_gd 0 11 (c := am_inB v1 8 = true) (pc' := 12) (a' := ([(0, am_R 32 i0), (1, am_I v1)], ([], (z, (sA x 65 0 (Int32.toNatClampNeg v1) (xA x 49 0 (Int32.toNatClampNeg (4 : Int32)))))))) rfl rfl (fun c_1 => ?_)
  refine to_go 4 (pc' := 18) (a' := ([(0, am_R 32 i0), (1, am_I v1)], ([am_R 32 i0, am_I v1, am_R 66 0], (z, (sA x 65 0 (Int32.toNatClampNeg v1) (xA x 49 0 (Int32.toNatClampNeg (4 : Int32)))))))) rfl ?_
  refine to_gk 2 22 (c := am_inB (4 : Int32) 5 = true) (pc' := 23) (a' := ([(0, am_R 32 i0), (1, am_I v1)], ([am_I (xA x 50 0 (Int32.toNatClampNeg (4 : Int32))), am_I v1, am_R 66 0], (z, (sA x 65 0 (Int32.toNatClampNeg v1) (xA x 49 0 (Int32.toNatClampNeg (4 : Int32)))))))) rfl rfl (by decide) ?_
  refine to_gd 0 23 (c := am_inB v1 8 = true) (pc' := 24) (a' := ([(0, am_R 32 i0), (1, am_I v1)], ([], (z, (sA (sA x 65 0 (Int32.toNatClampNeg v1) (xA x 49 0 (Int32.toNatClampNeg (4 : Int32)))) 66 0 (Int32.toNatClampNeg v1) (xA x 50 0 (Int32.toNatClampNeg (4 : Int32)))))))) rfl rfl (fun c_2 => ?_)
  refine to_go 4 (pc' := 30) (a' := ([(0, am_R 32 i0), (1, am_I v1)], ([am_R 32 i0, am_I v1, am_R 67 0], (z, (sA (sA x 65 0 (Int32.toNatClampNeg v1) (xA x 49 0 (Int32.toNatClampNeg (4 : Int32)))) 66 0 (Int32.toNatClampNeg v1) (xA x 50 0 (Int32.toNatClampNeg (4 : Int32)))))))) rfl ?_
  refine to_gk 2 34 (c := am_inB (4 : Int32) 5 = true) (pc' := 35) (a' := ([(0, am_R 32 i0), (1, am_I v1)], ([am_I (xA x 53 0 (Int32.toNatClampNeg (4 : Int32))), am_I v1, am_R 67 0], (z, (sA (sA x 65 0 (Int32.toNatClampNeg v1) (xA x 49 0 (Int32.toNatClampNeg (4 : Int32)))) 66 0 (Int32.toNatClampNeg v1) (xA x 50 0 (Int32.toNatClampNeg (4 : Int32)))))))) rfl rfl (by decide) ?_
  refine to_gd 0 35 (c := am_inB v1 8 = true) (pc' := 36) (a' := ([(0, am_R 32 i0), (1, am_I v1)], ([], (z, (sA (sA (sA x 65 0 (Int32.toNatClampNeg v1) (xA x 49 0 (Int32.toNatClampNeg (4 : Int32)))) 66 0 (Int32.toNatClampNeg v1) (xA x 50 0 (Int32.toNatClampNeg (4 : Int32)))) 67 0 (Int32.toNatClampNeg v1) (xA x 53 0 (Int32.toNatClampNeg (4 : Int32)))))))) rfl rfl (fun c_3 => ?_)
  refine to_go 4 (pc' := 42) (a' := ([(0, am_R 32 i0), (1, am_I v1)], ([am_I (0 : Int32), am_I v1, am_R 69 0], (z, (sA (sA (sA x 65 0 (Int32.toNatClampNeg v1) (xA x 49 0 (Int32.toNatClampNeg (4 : Int32)))) 66 0 (Int32.toNatClampNeg v1) (xA x 50 0 (Int32.toNatClampNeg (4 : Int32)))) 67 0 (Int32.toNatClampNeg v1) (xA x 53 0 (Int32.toNatClampNeg (4 : Int32)))))))) rfl ?_
  refine to_gd 0 42 (c := am_inB v1 8 = true) (pc' := 43) (a' := ([(0, am_R 32 i0), (1, am_I v1)], ([], (z, (sA (sA (sA (sA x 65 0 (Int32.toNatClampNeg v1) (xA x 49 0 (Int32.toNatClampNeg (4 : Int32)))) 66 0 (Int32.toNatClampNeg v1) (xA x 50 0 (Int32.toNatClampNeg (4 : Int32)))) 67 0 (Int32.toNatClampNeg v1) (xA x 53 0 (Int32.toNatClampNeg (4 : Int32)))) 69 0 (Int32.toNatClampNeg v1) (0 : Int32)))))) rfl rfl (fun c_4 => ?_)
  refine to_go 2 (pc' := 45) (a' := ([(2, am_I (0 : Int32)), (0, am_R 32 i0), (1, am_I v1)], ([], (z, (sA (sA (sA (sA x 65 0 (Int32.toNatClampNeg v1) (xA x 49 0 (Int32.toNatClampNeg (4 : Int32)))) 66 0 (Int32.toNatClampNeg v1) (xA x 50 0 (Int32.toNatClampNeg (4 : Int32)))) 67 0 (Int32.toNatClampNeg v1) (xA x 53 0 (Int32.toNatClampNeg (4 : Int32)))) 69 0 (Int32.toNatClampNeg v1) (0 : Int32)))))) rfl ?_
  refine to_fg [1, 2, 0] (lv' := [(0, am_R 32 i0), (1, am_I v1), (2, am_I (0 : Int32))]) rfl ?_
  exact tb_X9_keepRow_45 (by omega)  n i0 v1 (0 : Int32) (sA (sA (sA (sA x 65 0 (Int32.toNatClampNeg v1) (xA x 49 0 (Int32.toNatClampNeg (4 : Int32)))) 66 0 (Int32.toNatClampNeg v1) (xA x 50 0 (Int32.toNatClampNeg (4 : Int32)))) 67 0 (Int32.toNatClampNeg v1) (xA x 53 0 (Int32.toNatClampNeg (4 : Int32)))) 69 0 (Int32.toNatClampNeg v1) (0 : Int32))
def b_X9_backRow_38 (n : Nat) : Nat → Nat → Int32 → Int32 → am_X → Option (am_X)
  | 0, _, _, _, _ => none
  | k + 1, i0, v1, v2, x => if (12 : Int32) ≤ v2 then (some x) else (if am_inB (((12 : Int32) * v1) + v2) 96 = true then (if am_inB ((48 : Int32) + v2) 60 = true then (b_X9_backRow_38 n k i0 v1 (v2 + (1 : Int32)) (sA x 54 0 (Int32.toNatClampNeg ((48 : Int32) + v2)) (xA x 68 0 (Int32.toNatClampNeg (((12 : Int32) * v1) + v2))))) else none) else none)
theorem tb_X9_backRow_38 {n : Nat} {d : Nat} {z : am_X} (hd : 0 ≤ d) : ∀ (k : Nat) (i0 : Nat) (v1 : Int32) (v2 : Int32) (x : am_X), am_To d (am_tab pX9_backRow) 38 ([(0, am_R 32 i0), (1, am_I v1), (2, am_I v2)], ([], (z, x))) (cvV1 z) (b_X9_backRow_38 n k i0 v1 v2 x) := by
  intro k
  induction k with
  | zero =>
    intro i0 v1 v2 x
    exact to_0
  | succ k ih =>
    intro i0 v1 v2 x
    rw [b_X9_backRow_38]
    refine to_if 3 (c := (12 : Int32) ≤ v2) (p1 := 70) (p2 := 44) (a' := ([(0, am_R 32 i0), (1, am_I v1), (2, am_I v2)], ([], (z, x)))) rfl (fun c_1 => ?_) (fun c_1 => ?_)
    · exact to_rt 1 rfl
    · refine to_go 4 (pc' := 51) (a' := ([(0, am_R 32 i0), (1, am_I v1), (2, am_I v2)], ([am_I v2, am_I (48 : Int32), am_R 54 0], (z, x)))) rfl ?_
      refine to_go 4 (pc' := 58) (a' := ([(0, am_R 32 i0), (1, am_I v1), (2, am_I v2)], ([am_I (12 : Int32), am_R 68 0, am_I ((48 : Int32) + v2), am_R 54 0], (z, x)))) rfl ?_
      refine to_go 4 (pc' := 62) (a' := ([(0, am_R 32 i0), (1, am_I v1), (2, am_I v2)], ([am_I (((12 : Int32) * v1) + v2), am_R 68 0, am_I ((48 : Int32) + v2), am_R 54 0], (z, x)))) rfl ?_
      refine to_gd 0 62 (c := am_inB (((12 : Int32) * v1) + v2) 96 = true) (pc' := 63) (a' := ([(0, am_R 32 i0), (1, am_I v1), (2, am_I v2)], ([am_I (xA x 68 0 (Int32.toNatClampNeg (((12 : Int32) * v1) + v2))), am_I ((48 : Int32) + v2), am_R 54 0], (z, x)))) rfl rfl (fun c_2 => ?_)
      refine to_gd 0 63 (c := am_inB ((48 : Int32) + v2) 60 = true) (pc' := 64) (a' := ([(0, am_R 32 i0), (1, am_I v1), (2, am_I v2)], ([], (z, (sA x 54 0 (Int32.toNatClampNeg ((48 : Int32) + v2)) (xA x 68 0 (Int32.toNatClampNeg (((12 : Int32) * v1) + v2)))))))) rfl rfl (fun c_3 => ?_)
      refine to_go 2 (pc' := 38) (a' := ([(2, am_I (v2 + (1 : Int32))), (0, am_R 32 i0), (1, am_I v1)], ([], (z, (sA x 54 0 (Int32.toNatClampNeg ((48 : Int32) + v2)) (xA x 68 0 (Int32.toNatClampNeg (((12 : Int32) * v1) + v2)))))))) rfl ?_
      refine to_fg [1, 2, 0] (lv' := [(0, am_R 32 i0), (1, am_I v1), (2, am_I (v2 + (1 : Int32)))]) rfl ?_
      exact ih i0 v1 (v2 + (1 : Int32)) (sA x 54 0 (Int32.toNatClampNeg ((48 : Int32) + v2)) (xA x 68 0 (Int32.toNatClampNeg (((12 : Int32) * v1) + v2))))
def f_X9_backRow (n : Nat) (i0 : Nat) (v1 : Int32) (x : am_X) : Option (am_X) := if am_inB v1 8 = true then (if am_inB v1 8 = true then (if am_inB v1 8 = true then (b_X9_backRow_38 n n i0 v1 (0 : Int32) (sA (sA (sA x 49 0 (Int32.toNatClampNeg (4 : Int32)) (xA x 65 0 (Int32.toNatClampNeg v1))) 50 0 (Int32.toNatClampNeg (4 : Int32)) (xA x 66 0 (Int32.toNatClampNeg v1))) 53 0 (Int32.toNatClampNeg (4 : Int32)) (xA x 67 0 (Int32.toNatClampNeg v1)))) else none) else none) else none
theorem t_X9_backRow {n : Nat} {d : Nat} {i0 : Nat} {v1 : Int32} {x z : am_X} {q : am_X} (hd : 1 ≤ d) (h : f_X9_backRow n i0 v1 x = some q) : am_Ev am_PR d 149 [am_R 32 i0, am_I v1] (z, x) (cvV1 z q) := by
  obtain ⟨d, rfl⟩ : ∃ e, d = e + 1 := ⟨d - 1, by omega⟩
  refine to_ev (P := (am_tab pX9_backRow)) rfl (lv := [(0, am_R 32 i0), (1, am_I v1)]) rfl ?_ q h
  unfold f_X9_backRow
  refine to_go 4 (pc' := 6) (a' := ([(0, am_R 32 i0), (1, am_I v1)], ([am_R 32 i0, am_I (4 : Int32), am_R 49 0], (z, x)))) rfl ?_
  refine to_gd 2 10 (c := am_inB v1 8 = true) (pc' := 11) (a' := ([(0, am_R 32 i0), (1, am_I v1)], ([am_I (xA x 65 0 (Int32.toNatClampNeg v1)), am_I (4 : Int32), am_R 49 0], (z, x)))) rfl rfl (fun c_1 => ?_)
  refine to_gk 0 11 (c := am_inB (4 : Int32) 5 = true) (pc' := 12) (a' := ([(0, am_R 32 i0), (1, am_I v1)], ([], (z, (sA x 49 0 (Int32.toNatClampNeg (4 : Int32)) (xA x 65 0 (Int32.toNatClampNeg v1))))))) rfl rfl (by decide) ?_
  refine to_go 4 (pc' := 18) (a' := ([(0, am_R 32 i0), (1, am_I v1)], ([am_R 32 i0, am_I (4 : Int32), am_R 50 0], (z, (sA x 49 0 (Int32.toNatClampNeg (4 : Int32)) (xA x 65 0 (Int32.toNatClampNeg v1))))))) rfl ?_
  refine to_gd 2 22 (c := am_inB v1 8 = true) (pc' := 23) (a' := ([(0, am_R 32 i0), (1, am_I v1)], ([am_I (xA x 66 0 (Int32.toNatClampNeg v1)), am_I (4 : Int32), am_R 50 0], (z, (sA x 49 0 (Int32.toNatClampNeg (4 : Int32)) (xA x 65 0 (Int32.toNatClampNeg v1))))))) rfl rfl (fun c_2 => ?_)
  refine to_gk 0 23 (c := am_inB (4 : Int32) 5 = true) (pc' := 24) (a' := ([(0, am_R 32 i0), (1, am_I v1)], ([], (z, (sA (sA x 49 0 (Int32.toNatClampNeg (4 : Int32)) (xA x 65 0 (Int32.toNatClampNeg v1))) 50 0 (Int32.toNatClampNeg (4 : Int32)) (xA x 66 0 (Int32.toNatClampNeg v1))))))) rfl rfl (by decide) ?_
  refine to_go 4 (pc' := 30) (a' := ([(0, am_R 32 i0), (1, am_I v1)], ([am_R 32 i0, am_I (4 : Int32), am_R 53 0], (z, (sA (sA x 49 0 (Int32.toNatClampNeg (4 : Int32)) (xA x 65 0 (Int32.toNatClampNeg v1))) 50 0 (Int32.toNatClampNeg (4 : Int32)) (xA x 66 0 (Int32.toNatClampNeg v1))))))) rfl ?_
  refine to_gd 2 34 (c := am_inB v1 8 = true) (pc' := 35) (a' := ([(0, am_R 32 i0), (1, am_I v1)], ([am_I (xA x 67 0 (Int32.toNatClampNeg v1)), am_I (4 : Int32), am_R 53 0], (z, (sA (sA x 49 0 (Int32.toNatClampNeg (4 : Int32)) (xA x 65 0 (Int32.toNatClampNeg v1))) 50 0 (Int32.toNatClampNeg (4 : Int32)) (xA x 66 0 (Int32.toNatClampNeg v1))))))) rfl rfl (fun c_3 => ?_)
  refine to_gk 0 35 (c := am_inB (4 : Int32) 5 = true) (pc' := 36) (a' := ([(0, am_R 32 i0), (1, am_I v1)], ([], (z, (sA (sA (sA x 49 0 (Int32.toNatClampNeg (4 : Int32)) (xA x 65 0 (Int32.toNatClampNeg v1))) 50 0 (Int32.toNatClampNeg (4 : Int32)) (xA x 66 0 (Int32.toNatClampNeg v1))) 53 0 (Int32.toNatClampNeg (4 : Int32)) (xA x 67 0 (Int32.toNatClampNeg v1))))))) rfl rfl (by decide) ?_
  refine to_go 2 (pc' := 38) (a' := ([(2, am_I (0 : Int32)), (0, am_R 32 i0), (1, am_I v1)], ([], (z, (sA (sA (sA x 49 0 (Int32.toNatClampNeg (4 : Int32)) (xA x 65 0 (Int32.toNatClampNeg v1))) 50 0 (Int32.toNatClampNeg (4 : Int32)) (xA x 66 0 (Int32.toNatClampNeg v1))) 53 0 (Int32.toNatClampNeg (4 : Int32)) (xA x 67 0 (Int32.toNatClampNeg v1))))))) rfl ?_
  refine to_fg [1, 2, 0] (lv' := [(0, am_R 32 i0), (1, am_I v1), (2, am_I (0 : Int32))]) rfl ?_
  exact tb_X9_backRow_38 (by omega)  n i0 v1 (0 : Int32) (sA (sA (sA x 49 0 (Int32.toNatClampNeg (4 : Int32)) (xA x 65 0 (Int32.toNatClampNeg v1))) 50 0 (Int32.toNatClampNeg (4 : Int32)) (xA x 66 0 (Int32.toNatClampNeg v1))) 53 0 (Int32.toNatClampNeg (4 : Int32)) (xA x 67 0 (Int32.toNatClampNeg v1)))
def f_X9_actBy (n : Nat) (v0 : Int32) (v1 : Int32) (x : am_X) : Option (Int32 × am_X) := if (3 : Int32) ≤ v0 then (if (7 : Int32) ≤ v0 then (if v1 = 0 then (some ((9 : Int32), x)) else (if (11 : Int32) ≤ v0 then (some ((9 : Int32), x)) else (some ((((20 : Int32) + v0) - (7 : Int32)), x)))) else (some ((((10 : Int32) + v0) - (3 : Int32)), x))) else (some (v0, x))
theorem t_X9_actBy {n : Nat} {d : Nat} {v0 : Int32} {v1 : Int32} {x z : am_X} {q : Int32 × am_X} (hd : 1 ≤ d) (h : f_X9_actBy n v0 v1 x = some q) : am_Ev am_PR d 150 [am_I v0, am_I v1] (z, x) (cvI1 z q) := by
  obtain ⟨d, rfl⟩ : ∃ e, d = e + 1 := ⟨d - 1, by omega⟩
  refine to_ev (P := (am_tab pX9_actBy)) rfl (lv := [(0, am_I v0), (1, am_I v1)]) rfl ?_ q h
  unfold f_X9_actBy
  refine to_if 3 (c := (3 : Int32) ≤ v0) (p1 := 7) (p2 := 5) (a' := ([(0, am_I v0), (1, am_I v1)], ([], (z, x)))) rfl (fun c_1 => ?_) (fun c_1 => ?_)
  · refine to_if 3 (c := (7 : Int32) ≤ v0) (p1 := 20) (p2 := 13) (a' := ([(0, am_I v0), (1, am_I v1)], ([], (z, x)))) rfl (fun c_2 => ?_) (fun c_2 => ?_)
    · refine to_if 2 (c := v1 = 0) (p1 := 40) (p2 := 24) (a' := ([(0, am_I v0), (1, am_I v1)], ([], (z, x)))) rfl (fun c_3 => ?_) (fun c_3 => ?_)
      · exact to_rt 2 (r := ((9 : Int32), x)) rfl
      · refine to_if 3 (c := (11 : Int32) ≤ v0) (p1 := 40) (p2 := 30) (a' := ([(0, am_I v0), (1, am_I v1)], ([], (z, x)))) rfl (fun c_4 => ?_) (fun c_4 => ?_)
        · exact to_rt 2 (r := ((9 : Int32), x)) rfl
        · refine to_go 4 (pc' := 36) (a' := ([(0, am_I v0), (1, am_I v1)], ([am_I (7 : Int32), am_I ((20 : Int32) + v0)], (z, x)))) rfl ?_
          exact to_rt 3 (r := ((((20 : Int32) + v0) - (7 : Int32)), x)) rfl
    · refine to_go 4 (pc' := 18) (a' := ([(0, am_I v0), (1, am_I v1)], ([am_I (3 : Int32), am_I ((10 : Int32) + v0)], (z, x)))) rfl ?_
      exact to_rt 2 (r := ((((10 : Int32) + v0) - (3 : Int32)), x)) rfl
  · exact to_rt 2 (r := (v0, x)) rfl
def f_X9_goRow (n : Nat) (i0 : Nat) (v1 : Int32) (v2 : Int32) (v3 : Int32) (x : am_X) : Option (Int32 × am_X) := if am_inB v1 8 = true then ((f_X9_actBy n (xA x 69 0 (Int32.toNatClampNeg v1)) v3 x).bind fun q2 => if am_inB v1 8 = true then (if am_inB v1 8 = true then ((f_X9_backRow n i0 v1 (sA q2.2 69 0 (Int32.toNatClampNeg v1) ((xA q2.2 69 0 (Int32.toNatClampNeg v1)) + (1 : Int32)))).bind fun q5 => (f_X9_mayDo n i0 (4 : Int32) q2.1 q5).bind fun q6 => if ¬ q6.1 = 0 then ((f_X9_doAct n i0 (4 : Int32) q2.1 v2 q6.2).bind fun q8 => (f_X9_lapseOf n i0 (4 : Int32) (v2 + (1 : Int32)) q8).bind fun q9 => (f_X9_keepRow n i0 (v1 + (1 : Int32)) q9).bind fun q10 => some ((1 : Int32), q10)) else (some ((0 : Int32), q6.2))) else none) else none) else none
theorem t_X9_goRow {n : Nat} {d : Nat} {i0 : Nat} {v1 : Int32} {v2 : Int32} {v3 : Int32} {x z : am_X} {q : Int32 × am_X} (hd : 5 ≤ d) (h : f_X9_goRow n i0 v1 v2 v3 x = some q) : am_Ev am_PR d 152 [am_R 32 i0, am_I v1, am_I v2, am_I v3] (z, x) (cvI1 z q) := by
  obtain ⟨d, rfl⟩ : ∃ e, d = e + 1 := ⟨d - 1, by omega⟩
  refine to_ev (P := (am_tab pX9_goRow)) rfl (lv := [(0, am_R 32 i0), (1, am_I v1), (2, am_I v2), (3, am_I v3)]) rfl ?_ q h
  unfold f_X9_goRow
  refine to_gd 3 5 (c := am_inB v1 8 = true) (pc' := 6) (a' := ([(0, am_R 32 i0), (1, am_I v1), (2, am_I v2), (3, am_I v3)], ([am_I (xA x 69 0 (Int32.toNatClampNeg v1))], (z, x)))) rfl rfl (fun c_1 => ?_)
  refine to_cl 2 (lv := [(0, am_R 32 i0), (1, am_I v1), (2, am_I v2), (3, am_I v3)]) (st := []) (M := (z, x)) (cb := (cvI1 z)) rfl (fun q hq => t_X9_actBy (by omega) hq) (fun q2 => ?_)
  refine to_go 4 (pc' := 17) (a' := ([(4, am_I q2.1), (0, am_R 32 i0), (1, am_I v1), (2, am_I v2), (3, am_I v3)], ([am_I v1, am_R 69 0], (z, q2.2)))) rfl ?_
  refine to_gd 1 18 (c := am_inB v1 8 = true) (pc' := 19) (a' := ([(4, am_I q2.1), (0, am_R 32 i0), (1, am_I v1), (2, am_I v2), (3, am_I v3)], ([am_I (xA q2.2 69 0 (Int32.toNatClampNeg v1)), am_I v1, am_R 69 0], (z, q2.2)))) rfl rfl (fun c_3 => ?_)
  refine to_gd 2 21 (c := am_inB v1 8 = true) (pc' := 22) (a' := ([(4, am_I q2.1), (0, am_R 32 i0), (1, am_I v1), (2, am_I v2), (3, am_I v3)], ([], (z, (sA q2.2 69 0 (Int32.toNatClampNeg v1) ((xA q2.2 69 0 (Int32.toNatClampNeg v1)) + (1 : Int32))))))) rfl rfl (fun c_4 => ?_)
  refine to_cl 3 (lv := [(4, am_I q2.1), (0, am_R 32 i0), (1, am_I v1), (2, am_I v2), (3, am_I v3)]) (st := []) (M := (z, (sA q2.2 69 0 (Int32.toNatClampNeg v1) ((xA q2.2 69 0 (Int32.toNatClampNeg v1)) + (1 : Int32))))) (cb := (cvV1 z)) rfl (fun q hq => t_X9_backRow (by omega) hq) (fun q5 => ?_)
  refine to_cl 4 (lv := [(4, am_I q2.1), (0, am_R 32 i0), (1, am_I v1), (2, am_I v2), (3, am_I v3)]) (st := []) (M := (z, q5)) (cb := (cvI1 z)) rfl (fun q hq => t_X9_mayDo (by omega) hq) (fun q6 => ?_)
  refine to_if 1 (c := ¬ q6.1 = 0) (p1 := 39) (p2 := 37) (a' := ([(4, am_I q2.1), (0, am_R 32 i0), (1, am_I v1), (2, am_I v2), (3, am_I v3)], ([], (z, q6.2)))) rfl (fun c_7 => ?_) (fun c_7 => ?_)
  · refine to_go 4 (pc' := 44) (a' := ([(4, am_I q2.1), (0, am_R 32 i0), (1, am_I v1), (2, am_I v2), (3, am_I v3)], ([am_I v2, am_I q2.1, am_I (4 : Int32), am_R 32 i0], (z, q6.2)))) rfl ?_
    refine to_cl 1 (lv := [(4, am_I q2.1), (0, am_R 32 i0), (1, am_I v1), (2, am_I v2), (3, am_I v3)]) (st := []) (M := (z, q6.2)) (cb := (cvV1 z)) rfl (fun q hq => t_X9_doAct (by omega) hq) (fun q8 => ?_)
    refine to_go 4 (pc' := 51) (a' := ([(4, am_I q2.1), (0, am_R 32 i0), (1, am_I v1), (2, am_I v2), (3, am_I v3)], ([am_I (1 : Int32), am_I v2, am_I (4 : Int32), am_R 32 i0], (z, q8)))) rfl ?_
    refine to_cl 2 (lv := [(4, am_I q2.1), (0, am_R 32 i0), (1, am_I v1), (2, am_I v2), (3, am_I v3)]) (st := []) (M := (z, q8)) (cb := (cvV1 z)) rfl (fun q hq => t_X9_lapseOf (by omega) hq) (fun q9 => ?_)
    refine to_go 4 (pc' := 59) (a' := ([(4, am_I q2.1), (0, am_R 32 i0), (1, am_I v1), (2, am_I v2), (3, am_I v3)], ([am_I (v1 + (1 : Int32)), am_R 32 i0], (z, q9)))) rfl ?_
    refine to_cl 1 (lv := [(4, am_I q2.1), (0, am_R 32 i0), (1, am_I v1), (2, am_I v2), (3, am_I v3)]) (st := []) (M := (z, q9)) (cb := (cvV1 z)) rfl (fun q hq => t_X9_keepRow (by omega) hq) (fun q10 => ?_)
    exact to_rk 1 63 (c := am_bz (1 : Int32) = true) (r := ((1 : Int32), q10)) rfl rfl (by decide)
  · exact to_rk 1 38 (c := am_bz (0 : Int32) = true) (r := ((0 : Int32), q6.2)) rfl rfl (by decide)
def b_X9_layGain_157 (n : Nat) (h73 : Nat → Int32 → Int32 → Int32 → Int32 → am_X → Option (am_X)) (i0 : Nat) (v3 : Int32) (v4 : Int32) (v5 : Int32) (v6 : Int32) (s0 : Nat) (s1 : Int32) (x : am_X) : Option (am_X) := h73 i0 v3 v4 v5 (v6 + (-1 : Int32)) (sF x 32 30 s0 s1)
theorem tb_X9_layGain_157 {n : Nat} {h73 : Nat → Int32 → Int32 → Int32 → Int32 → am_X → Option (am_X)} {d : Nat} {z : am_X} (hd : 5 ≤ d) (hh73 : ∀ (i0 : Nat) (v3 : Int32) (v4 : Int32) (v5 : Int32) (v6 : Int32) (x : am_X), am_To d (am_tab pX9_layGain) 73 ([(0, am_R 32 i0), (3, am_I v3), (4, am_I v4), (5, am_I v5), (6, am_I v6)], ([], (z, x))) (cvV1 z) (h73 i0 v3 v4 v5 v6 x)) (i0 : Nat) (v3 : Int32) (v4 : Int32) (v5 : Int32) (v6 : Int32) (s0 : Nat) (s1 : Int32) (x : am_X) : am_To d (am_tab pX9_layGain) 157 ([(0, am_R 32 i0), (3, am_I v3), (4, am_I v4), (5, am_I v5), (6, am_I v6)], ([am_I s1, am_R 32 s0], (z, x))) (cvV1 z) (b_X9_layGain_157 n h73 i0 v3 v4 v5 v6 s0 s1 x) := by
  unfold b_X9_layGain_157
  refine to_go 3 (pc' := 73) (a' := ([(6, am_I (v6 + (-1 : Int32))), (0, am_R 32 i0), (3, am_I v3), (4, am_I v4), (5, am_I v5)], ([], (z, (sF x 32 30 s0 s1))))) rfl ?_
  refine to_fg [1, 2, 3, 4, 0] (lv' := [(0, am_R 32 i0), (3, am_I v3), (4, am_I v4), (5, am_I v5), (6, am_I (v6 + (-1 : Int32)))]) rfl ?_
  exact hh73 i0 v3 v4 v5 (v6 + (-1 : Int32)) (sF x 32 30 s0 s1)
def b_X9_layGain_121 (n : Nat) (h73 : Nat → Int32 → Int32 → Int32 → Int32 → am_X → Option (am_X)) (i0 : Nat) (v3 : Int32) (v4 : Int32) (v5 : Int32) (v6 : Int32) (s0 : Nat) (s1 : Int32) (x : am_X) : Option (am_X) := if ((xA x 49 0 (Int32.toNatClampNeg (4 : Int32))) - v5) ≤ (xF x 32 30 i0) then (b_X9_layGain_157 n h73 i0 v3 v4 v5 v6 i0 (xF x 32 30 i0) (sF x 32 31 s0 s1)) else (b_X9_layGain_157 n h73 i0 v3 v4 v5 v6 i0 ((xA x 49 0 (Int32.toNatClampNeg (4 : Int32))) - v5) (sF x 32 31 s0 s1))
theorem tb_X9_layGain_121 {n : Nat} {h73 : Nat → Int32 → Int32 → Int32 → Int32 → am_X → Option (am_X)} {d : Nat} {z : am_X} (hd : 5 ≤ d) (hh73 : ∀ (i0 : Nat) (v3 : Int32) (v4 : Int32) (v5 : Int32) (v6 : Int32) (x : am_X), am_To d (am_tab pX9_layGain) 73 ([(0, am_R 32 i0), (3, am_I v3), (4, am_I v4), (5, am_I v5), (6, am_I v6)], ([], (z, x))) (cvV1 z) (h73 i0 v3 v4 v5 v6 x)) (i0 : Nat) (v3 : Int32) (v4 : Int32) (v5 : Int32) (v6 : Int32) (s0 : Nat) (s1 : Int32) (x : am_X) : am_To d (am_tab pX9_layGain) 121 ([(0, am_R 32 i0), (3, am_I v3), (4, am_I v4), (5, am_I v5), (6, am_I v6)], ([am_I s1, am_R 32 s0], (z, x))) (cvV1 z) (b_X9_layGain_121 n h73 i0 v3 v4 v5 v6 s0 s1 x) := by
  unfold b_X9_layGain_121
  refine to_go 4 (pc' := 129) (a' := ([(0, am_R 32 i0), (3, am_I v3), (4, am_I v4), (5, am_I v5), (6, am_I v6)], ([am_R 49 0, am_R 32 i0], (z, (sF x 32 31 s0 s1))))) rfl ?_
  refine to_gk 1 130 (c := am_inB (4 : Int32) 5 = true) (pc' := 131) (a' := ([(0, am_R 32 i0), (3, am_I v3), (4, am_I v4), (5, am_I v5), (6, am_I v6)], ([am_I (xA x 49 0 (Int32.toNatClampNeg (4 : Int32))), am_R 32 i0], (z, (sF x 32 31 s0 s1))))) rfl rfl (by decide) ?_
  refine to_go 4 (pc' := 138) (a' := ([(0, am_R 32 i0), (3, am_I v3), (4, am_I v4), (5, am_I v5), (6, am_I v6)], ([am_I (xF x 32 30 i0), am_I ((xA x 49 0 (Int32.toNatClampNeg (4 : Int32))) - v5), am_R 32 i0], (z, (sF x 32 31 s0 s1))))) rfl ?_
  refine to_if 1 (c := ((xA x 49 0 (Int32.toNatClampNeg (4 : Int32))) - v5) ≤ (xF x 32 30 i0)) (p1 := 153) (p2 := 141) (a' := ([(0, am_R 32 i0), (3, am_I v3), (4, am_I v4), (5, am_I v5), (6, am_I v6)], ([am_R 32 i0], (z, (sF x 32 31 s0 s1))))) rfl (fun c_1 => ?_) (fun c_1 => ?_)
  · refine to_go 2 (pc' := 157) (a' := ([(0, am_R 32 i0), (3, am_I v3), (4, am_I v4), (5, am_I v5), (6, am_I v6)], ([am_I (xF x 32 30 i0), am_R 32 i0], (z, (sF x 32 31 s0 s1))))) rfl ?_
    refine to_fg [0, 1, 2, 3, 4] (lv' := [(0, am_R 32 i0), (3, am_I v3), (4, am_I v4), (5, am_I v5), (6, am_I v6)]) rfl ?_
    exact tb_X9_layGain_157 (by omega) hh73  i0 v3 v4 v5 v6 i0 (xF x 32 30 i0) (sF x 32 31 s0 s1)
  · refine to_gk 3 146 (c := am_inB (4 : Int32) 5 = true) (pc' := 147) (a' := ([(0, am_R 32 i0), (3, am_I v3), (4, am_I v4), (5, am_I v5), (6, am_I v6)], ([am_I (xA x 49 0 (Int32.toNatClampNeg (4 : Int32))), am_R 32 i0], (z, (sF x 32 31 s0 s1))))) rfl rfl (by decide) ?_
    refine to_go 3 (pc' := 157) (a' := ([(0, am_R 32 i0), (3, am_I v3), (4, am_I v4), (5, am_I v5), (6, am_I v6)], ([am_I ((xA x 49 0 (Int32.toNatClampNeg (4 : Int32))) - v5), am_R 32 i0], (z, (sF x 32 31 s0 s1))))) rfl ?_
    refine to_fg [0, 1, 2, 3, 4] (lv' := [(0, am_R 32 i0), (3, am_I v3), (4, am_I v4), (5, am_I v5), (6, am_I v6)]) rfl ?_
    exact tb_X9_layGain_157 (by omega) hh73  i0 v3 v4 v5 v6 i0 ((xA x 49 0 (Int32.toNatClampNeg (4 : Int32))) - v5) (sF x 32 31 s0 s1)
def b_X9_layGain_205 (n : Nat) (h73 : Nat → Int32 → Int32 → Int32 → Int32 → am_X → Option (am_X)) (i0 : Nat) (v3 : Int32) (v4 : Int32) (v5 : Int32) (s0 : Int32) (s1 : Int32) (x : am_X) : Option (am_X) := h73 i0 v3 v4 v5 (s0 + s1) x
theorem tb_X9_layGain_205 {n : Nat} {h73 : Nat → Int32 → Int32 → Int32 → Int32 → am_X → Option (am_X)} {d : Nat} {z : am_X} (hd : 5 ≤ d) (hh73 : ∀ (i0 : Nat) (v3 : Int32) (v4 : Int32) (v5 : Int32) (v6 : Int32) (x : am_X), am_To d (am_tab pX9_layGain) 73 ([(0, am_R 32 i0), (3, am_I v3), (4, am_I v4), (5, am_I v5), (6, am_I v6)], ([], (z, x))) (cvV1 z) (h73 i0 v3 v4 v5 v6 x)) (i0 : Nat) (v3 : Int32) (v4 : Int32) (v5 : Int32) (s0 : Int32) (s1 : Int32) (x : am_X) : am_To d (am_tab pX9_layGain) 205 ([(0, am_R 32 i0), (3, am_I v3), (4, am_I v4), (5, am_I v5)], ([am_I s1, am_I s0], (z, x))) (cvV1 z) (b_X9_layGain_205 n h73 i0 v3 v4 v5 s0 s1 x) := by
  unfold b_X9_layGain_205
  refine to_go 3 (pc' := 73) (a' := ([(6, am_I (s0 + s1)), (0, am_R 32 i0), (3, am_I v3), (4, am_I v4), (5, am_I v5)], ([], (z, x)))) rfl ?_
  refine to_fg [1, 2, 3, 4, 0] (lv' := [(0, am_R 32 i0), (3, am_I v3), (4, am_I v4), (5, am_I v5), (6, am_I (s0 + s1))]) rfl ?_
  exact hh73 i0 v3 v4 v5 (s0 + s1) x
def b_X9_layGain_73 (n : Nat) : Nat → Nat → Int32 → Int32 → Int32 → Int32 → am_X → Option (am_X)
  | 0, _, _, _, _, _, _ => none
  | k + 1, i0, v3, v4, v5, v6, x => if v6 < 0 then (some x) else (if ¬ v6 = v4 then (if am_inB v6 8 = true then (if ¬ (xA x 69 0 (Int32.toNatClampNeg v6)) = (8 : Int32) then ((f_X9_goRow n i0 v6 (v3 + v6) (0 : Int32) x).bind fun q5 => if q5.1 = 0 then (b_X9_layGain_205 n (b_X9_layGain_73 n k) i0 v3 v4 v5 v6 (0 : Int32) q5.2) else (b_X9_layGain_205 n (b_X9_layGain_73 n k) i0 v3 v4 v5 v6 (1 : Int32) q5.2)) else (b_X9_layGain_73 n k i0 v3 v4 v5 (v6 + (-1 : Int32)) x)) else none) else (if ((xA x 49 0 (Int32.toNatClampNeg (4 : Int32))) - v5) ≤ (xF x 32 30 i0) then (b_X9_layGain_121 n (b_X9_layGain_73 n k) i0 v3 v4 v5 v6 i0 (xF x 32 31 i0) x) else ((f_X9_actBy n ((xA x 69 0 (Int32.toNatClampNeg (0 : Int32))) - (1 : Int32)) (0 : Int32) x).bind fun q8 => b_X9_layGain_121 n (b_X9_layGain_73 n k) i0 v3 v4 v5 v6 i0 q8.1 q8.2)))
theorem tb_X9_layGain_73 {n : Nat} {d : Nat} {z : am_X} (hd : 5 ≤ d) : ∀ (k : Nat) (i0 : Nat) (v3 : Int32) (v4 : Int32) (v5 : Int32) (v6 : Int32) (x : am_X), am_To d (am_tab pX9_layGain) 73 ([(0, am_R 32 i0), (3, am_I v3), (4, am_I v4), (5, am_I v5), (6, am_I v6)], ([], (z, x))) (cvV1 z) (b_X9_layGain_73 n k i0 v3 v4 v5 v6 x) := by
  intro k
  induction k with
  | zero =>
    intro i0 v3 v4 v5 v6 x
    exact to_0
  | succ k ih =>
    intro i0 v3 v4 v5 v6 x
    rw [b_X9_layGain_73]
    refine to_if 2 (c := v6 < 0) (p1 := 211) (p2 := 78) (a' := ([(0, am_R 32 i0), (3, am_I v3), (4, am_I v4), (5, am_I v5), (6, am_I v6)], ([], (z, x)))) rfl (fun c_1 => ?_) (fun c_1 => ?_)
    · exact to_rt 1 rfl
    · refine to_if 3 (c := ¬ v6 = v4) (p1 := 166) (p2 := 85) (a' := ([(0, am_R 32 i0), (3, am_I v3), (4, am_I v4), (5, am_I v5), (6, am_I v6)], ([], (z, x)))) rfl (fun c_2 => ?_) (fun c_2 => ?_)
      · refine to_gd 3 172 (c := am_inB v6 8 = true) (pc' := 173) (a' := ([(0, am_R 32 i0), (3, am_I v3), (4, am_I v4), (5, am_I v5), (6, am_I v6)], ([am_I (xA x 69 0 (Int32.toNatClampNeg v6))], (z, x)))) rfl rfl (fun c_3 => ?_)
        refine to_if 2 (c := ¬ (xA x 69 0 (Int32.toNatClampNeg v6)) = (8 : Int32)) (p1 := 184) (p2 := 178) (a' := ([(0, am_R 32 i0), (3, am_I v3), (4, am_I v4), (5, am_I v5), (6, am_I v6)], ([], (z, x)))) rfl (fun c_4 => ?_) (fun c_4 => ?_)
        · refine to_go 4 (pc' := 190) (a' := ([(0, am_R 32 i0), (3, am_I v3), (4, am_I v4), (5, am_I v5), (6, am_I v6)], ([am_I v3, am_I v6, am_R 32 i0, am_I v6], (z, x)))) rfl ?_
          refine to_cl 4 (lv := [(0, am_R 32 i0), (3, am_I v3), (4, am_I v4), (5, am_I v5), (6, am_I v6)]) (st := [am_I v6]) (M := (z, x)) (cb := (cvI1 z)) rfl (fun q hq => t_X9_goRow (by omega) hq) (fun q5 => ?_)
          refine to_if 1 (c := q5.1 = 0) (p1 := 204) (p2 := 200) (a' := ([(0, am_R 32 i0), (3, am_I v3), (4, am_I v4), (5, am_I v5), (6, am_I v6)], ([am_I v6], (z, q5.2)))) rfl (fun c_6 => ?_) (fun c_6 => ?_)
          · refine to_go 1 (pc' := 205) (a' := ([(0, am_R 32 i0), (3, am_I v3), (4, am_I v4), (5, am_I v5), (6, am_I v6)], ([am_I (0 : Int32), am_I v6], (z, q5.2)))) rfl ?_
            refine to_fg [0, 1, 2, 3] (lv' := [(0, am_R 32 i0), (3, am_I v3), (4, am_I v4), (5, am_I v5)]) rfl ?_
            exact tb_X9_layGain_205 (by omega) ih  i0 v3 v4 v5 v6 (0 : Int32) q5.2
          · refine to_go 2 (pc' := 205) (a' := ([(0, am_R 32 i0), (3, am_I v3), (4, am_I v4), (5, am_I v5), (6, am_I v6)], ([am_I (1 : Int32), am_I v6], (z, q5.2)))) rfl ?_
            refine to_fg [0, 1, 2, 3] (lv' := [(0, am_R 32 i0), (3, am_I v3), (4, am_I v4), (5, am_I v5)]) rfl ?_
            exact tb_X9_layGain_205 (by omega) ih  i0 v3 v4 v5 v6 (1 : Int32) q5.2
        · refine to_go 2 (pc' := 73) (a' := ([(6, am_I (v6 + (-1 : Int32))), (0, am_R 32 i0), (3, am_I v3), (4, am_I v4), (5, am_I v5)], ([], (z, x)))) rfl ?_
          refine to_fg [1, 2, 3, 4, 0] (lv' := [(0, am_R 32 i0), (3, am_I v3), (4, am_I v4), (5, am_I v5), (6, am_I (v6 + (-1 : Int32)))]) rfl ?_
          exact ih i0 v3 v4 v5 (v6 + (-1 : Int32)) x
      · refine to_go 4 (pc' := 91) (a' := ([(0, am_R 32 i0), (3, am_I v3), (4, am_I v4), (5, am_I v5), (6, am_I v6)], ([am_I (4 : Int32), am_R 49 0, am_R 32 i0], (z, x)))) rfl ?_
        refine to_gk 0 91 (c := am_inB (4 : Int32) 5 = true) (pc' := 92) (a' := ([(0, am_R 32 i0), (3, am_I v3), (4, am_I v4), (5, am_I v5), (6, am_I v6)], ([am_I (xA x 49 0 (Int32.toNatClampNeg (4 : Int32))), am_R 32 i0], (z, x)))) rfl rfl (by decide) ?_
        refine to_go 4 (pc' := 99) (a' := ([(0, am_R 32 i0), (3, am_I v3), (4, am_I v4), (5, am_I v5), (6, am_I v6)], ([am_I (xF x 32 30 i0), am_I ((xA x 49 0 (Int32.toNatClampNeg (4 : Int32))) - v5), am_R 32 i0], (z, x)))) rfl ?_
        refine to_if 1 (c := ((xA x 49 0 (Int32.toNatClampNeg (4 : Int32))) - v5) ≤ (xF x 32 30 i0)) (p1 := 117) (p2 := 102) (a' := ([(0, am_R 32 i0), (3, am_I v3), (4, am_I v4), (5, am_I v5), (6, am_I v6)], ([am_R 32 i0], (z, x)))) rfl (fun c_7 => ?_) (fun c_7 => ?_)
        · refine to_go 2 (pc' := 121) (a' := ([(0, am_R 32 i0), (3, am_I v3), (4, am_I v4), (5, am_I v5), (6, am_I v6)], ([am_I (xF x 32 31 i0), am_R 32 i0], (z, x)))) rfl ?_
          refine to_fg [0, 1, 2, 3, 4] (lv' := [(0, am_R 32 i0), (3, am_I v3), (4, am_I v4), (5, am_I v5), (6, am_I v6)]) rfl ?_
          exact tb_X9_layGain_121 (by omega) ih  i0 v3 v4 v5 v6 i0 (xF x 32 31 i0) x
        · refine to_gk 3 107 (c := am_inB (0 : Int32) 8 = true) (pc' := 108) (a' := ([(0, am_R 32 i0), (3, am_I v3), (4, am_I v4), (5, am_I v5), (6, am_I v6)], ([am_I (xA x 69 0 (Int32.toNatClampNeg (0 : Int32))), am_R 32 i0], (z, x)))) rfl rfl (by decide) ?_
          refine to_cl 4 (lv := [(0, am_R 32 i0), (3, am_I v3), (4, am_I v4), (5, am_I v5), (6, am_I v6)]) (st := [am_R 32 i0]) (M := (z, x)) (cb := (cvI1 z)) rfl (fun q hq => t_X9_actBy (by omega) hq) (fun q8 => ?_)
          refine to_go 1 (pc' := 121) (a' := ([(0, am_R 32 i0), (3, am_I v3), (4, am_I v4), (5, am_I v5), (6, am_I v6)], ([am_I q8.1, am_R 32 i0], (z, q8.2)))) rfl ?_
          refine to_fg [0, 1, 2, 3, 4] (lv' := [(0, am_R 32 i0), (3, am_I v3), (4, am_I v4), (5, am_I v5), (6, am_I v6)]) rfl ?_
          exact tb_X9_layGain_121 (by omega) ih  i0 v3 v4 v5 v6 i0 q8.1 q8.2
def f_X9_layGain (n : Nat) (i0 : Nat) (v1 : Int32) (v2 : Int32) (x : am_X) : Option (am_X) := if am_inB v1 5 = true then (if am_inB v1 5 = true then (if (1 : Int32) ≤ (v2 - (xA x 51 0 (Int32.toNatClampNeg v1))) then ((f_X9_copy n i0 v1 (4 : Int32) (sF (sF x 32 30 i0 (-1 : Int32)) 32 31 i0 (9 : Int32))).bind fun q4 => (f_X9_lapseOf n i0 (4 : Int32) ((xF x 32 6 i0) + (xA x 51 0 (Int32.toNatClampNeg v1))) q4).bind fun q5 => (f_X9_keepRow n i0 (0 : Int32) q5).bind fun q6 => b_X9_layGain_73 n n i0 ((xF x 32 6 i0) + (xA x 51 0 (Int32.toNatClampNeg v1))) (v2 - (xA x 51 0 (Int32.toNatClampNeg v1))) (xA q5 49 0 (Int32.toNatClampNeg (4 : Int32))) (0 : Int32) q6) else (some (sF (sF (sF x 32 30 i0 (-1 : Int32)) 32 31 i0 (9 : Int32)) 32 30 i0 (0 : Int32)))) else none) else none
theorem t_X9_layGain {n : Nat} {d : Nat} {i0 : Nat} {v1 : Int32} {v2 : Int32} {x z : am_X} {q : am_X} (hd : 6 ≤ d) (h : f_X9_layGain n i0 v1 v2 x = some q) : am_Ev am_PR d 151 [am_R 32 i0, am_I v1, am_I v2] (z, x) (cvV1 z q) := by
  obtain ⟨d, rfl⟩ : ∃ e, d = e + 1 := ⟨d - 1, by omega⟩
  refine to_ev (P := (am_tab pX9_layGain)) rfl (lv := [(0, am_R 32 i0), (1, am_I v1), (2, am_I v2)]) rfl ?_ q h
  unfold f_X9_layGain
  refine to_go 4 (pc' := 8) (a' := ([(0, am_R 32 i0), (1, am_I v1), (2, am_I v2)], ([am_R 51 0, am_I (xF x 32 6 i0)], (z, x)))) rfl ?_
  refine to_gd 1 9 (c := am_inB v1 5 = true) (pc' := 10) (a' := ([(0, am_R 32 i0), (1, am_I v1), (2, am_I v2)], ([am_I (xA x 51 0 (Int32.toNatClampNeg v1)), am_I (xF x 32 6 i0)], (z, x)))) rfl rfl (fun c_1 => ?_)
  refine to_go 4 (pc' := 14) (a' := ([(3, am_I ((xF x 32 6 i0) + (xA x 51 0 (Int32.toNatClampNeg v1)))), (0, am_R 32 i0), (1, am_I v1), (2, am_I v2)], ([am_R 32 i0, am_I v2], (z, x)))) rfl ?_
  refine to_gd 2 18 (c := am_inB v1 5 = true) (pc' := 19) (a' := ([(3, am_I ((xF x 32 6 i0) + (xA x 51 0 (Int32.toNatClampNeg v1)))), (0, am_R 32 i0), (1, am_I v1), (2, am_I v2)], ([am_I (xA x 51 0 (Int32.toNatClampNeg v1)), am_I v2], (z, x)))) rfl rfl (fun c_2 => ?_)
  refine to_go 4 (pc' := 24) (a' := ([(4, am_I (v2 - (xA x 51 0 (Int32.toNatClampNeg v1)))), (3, am_I ((xF x 32 6 i0) + (xA x 51 0 (Int32.toNatClampNeg v1)))), (0, am_R 32 i0), (1, am_I v1), (2, am_I v2)], ([am_I (-1 : Int32), am_R 32 i0], (z, x)))) rfl ?_
  refine to_go 4 (pc' := 33) (a' := ([(4, am_I (v2 - (xA x 51 0 (Int32.toNatClampNeg v1)))), (3, am_I ((xF x 32 6 i0) + (xA x 51 0 (Int32.toNatClampNeg v1)))), (0, am_R 32 i0), (1, am_I v1), (2, am_I v2)], ([], (z, (sF (sF x 32 30 i0 (-1 : Int32)) 32 31 i0 (9 : Int32)))))) rfl ?_
  refine to_if 3 (c := (1 : Int32) ≤ (v2 - (xA x 51 0 (Int32.toNatClampNeg v1)))) (p1 := 45) (p2 := 39) (a' := ([(4, am_I (v2 - (xA x 51 0 (Int32.toNatClampNeg v1)))), (3, am_I ((xF x 32 6 i0) + (xA x 51 0 (Int32.toNatClampNeg v1)))), (0, am_R 32 i0), (1, am_I v1), (2, am_I v2)], ([], (z, (sF (sF x 32 30 i0 (-1 : Int32)) 32 31 i0 (9 : Int32)))))) rfl (fun c_3 => ?_) (fun c_3 => ?_)
  · refine to_cl 4 (lv := [(4, am_I (v2 - (xA x 51 0 (Int32.toNatClampNeg v1)))), (3, am_I ((xF x 32 6 i0) + (xA x 51 0 (Int32.toNatClampNeg v1)))), (0, am_R 32 i0), (1, am_I v1), (2, am_I v2)]) (st := []) (M := (z, (sF (sF x 32 30 i0 (-1 : Int32)) 32 31 i0 (9 : Int32)))) (cb := (cvV1 z)) rfl (fun q hq => t_X9_copy (by omega) hq) (fun q4 => ?_)
    refine to_cl 4 (lv := [(4, am_I (v2 - (xA x 51 0 (Int32.toNatClampNeg v1)))), (3, am_I ((xF x 32 6 i0) + (xA x 51 0 (Int32.toNatClampNeg v1)))), (0, am_R 32 i0), (1, am_I v1), (2, am_I v2)]) (st := []) (M := (z, q4)) (cb := (cvV1 z)) rfl (fun q hq => t_X9_lapseOf (by omega) hq) (fun q5 => ?_)
    refine to_gk 3 62 (c := am_inB (4 : Int32) 5 = true) (pc' := 63) (a' := ([(4, am_I (v2 - (xA x 51 0 (Int32.toNatClampNeg v1)))), (3, am_I ((xF x 32 6 i0) + (xA x 51 0 (Int32.toNatClampNeg v1)))), (0, am_R 32 i0), (1, am_I v1), (2, am_I v2)], ([am_I (xA q5 49 0 (Int32.toNatClampNeg (4 : Int32)))], (z, q5)))) rfl rfl (by decide) ?_
    refine to_cl 4 (lv := [(5, am_I (xA q5 49 0 (Int32.toNatClampNeg (4 : Int32)))), (4, am_I (v2 - (xA x 51 0 (Int32.toNatClampNeg v1)))), (3, am_I ((xF x 32 6 i0) + (xA x 51 0 (Int32.toNatClampNeg v1)))), (0, am_R 32 i0), (1, am_I v1), (2, am_I v2)]) (st := []) (M := (z, q5)) (cb := (cvV1 z)) rfl (fun q hq => t_X9_keepRow (by omega) hq) (fun q6 => ?_)
    refine to_go 2 (pc' := 73) (a' := ([(6, am_I (0 : Int32)), (5, am_I (xA q5 49 0 (Int32.toNatClampNeg (4 : Int32)))), (4, am_I (v2 - (xA x 51 0 (Int32.toNatClampNeg v1)))), (3, am_I ((xF x 32 6 i0) + (xA x 51 0 (Int32.toNatClampNeg v1)))), (0, am_R 32 i0), (1, am_I v1), (2, am_I v2)], ([], (z, q6)))) rfl ?_
    refine to_fg [4, 3, 2, 1, 0] (lv' := [(0, am_R 32 i0), (3, am_I ((xF x 32 6 i0) + (xA x 51 0 (Int32.toNatClampNeg v1)))), (4, am_I (v2 - (xA x 51 0 (Int32.toNatClampNeg v1)))), (5, am_I (xA q5 49 0 (Int32.toNatClampNeg (4 : Int32)))), (6, am_I (0 : Int32))]) rfl ?_
    exact tb_X9_layGain_73 (by omega)  n i0 ((xF x 32 6 i0) + (xA x 51 0 (Int32.toNatClampNeg v1))) (v2 - (xA x 51 0 (Int32.toNatClampNeg v1))) (xA q5 49 0 (Int32.toNatClampNeg (4 : Int32))) (0 : Int32) q6
  · exact to_rt 4 rfl
