def f_X9_gain (n : Nat) (i0 : Nat) (v1 : Int32) (v2 : Int32) (v3 : Int32) (x : am_X) : Option (Int32 × am_X) := (f_X9_isPerson n i0 v1 x).bind fun q1 => if ¬ q1.1 = 0 then ((f_X9_within n v2 (0 : Int32) (6 : Int32) q1.2).bind fun q3 => if q3.1 = 0 then (some ((-102 : Int32), q3.2)) else ((f_X9_within n v3 (0 : Int32) (1 : Int32) q3.2).bind fun q5 => if ¬ q5.1 = 0 then (if ¬ (xF q5.2 32 15 i0) = (60 : Int32) then ((f_X9_layGain n i0 v1 v2 (sF q5.2 32 15 i0 ((xF q5.2 32 15 i0) + (1 : Int32)))).bind fun q8 => if ¬ v3 = 0 then (some ((xF q8 32 31 i0), q8)) else (some ((xF q8 32 30 i0), q8))) else (some ((-103 : Int32), q5.2))) else (some ((-102 : Int32), q5.2)))) else (some ((-101 : Int32), q1.2))
theorem t_X9_gain {n : Nat} {d : Nat} {i0 : Nat} {v1 : Int32} {v2 : Int32} {v3 : Int32} {x z : am_X} {q : Int32 × am_X} (hd : 7 ≤ d) (h : f_X9_gain n i0 v1 v2 v3 x = some q) : am_Ev am_PR d 153 [am_R 32 i0, am_I v1, am_I v2, am_I v3] (z, x) (cvI1 z q) := by
  obtain ⟨d, rfl⟩ : ∃ e, d = e + 1 := ⟨d - 1, by omega⟩
  refine to_ev (P := (am_tab pX9_gain)) rfl (lv := [(0, am_R 32 i0), (1, am_I v1), (2, am_I v2), (3, am_I v3)]) rfl ?_ q h
  unfold f_X9_gain
  refine to_cl 3 (lv := [(0, am_R 32 i0), (1, am_I v1), (2, am_I v2), (3, am_I v3)]) (st := []) (M := (z, x)) (cb := (cvI1 z)) rfl (fun q hq => t_X9_isPerson (by omega) hq) (fun q1 => ?_)
  refine to_if 1 (c := ¬ q1.1 = 0) (p1 := 11) (p2 := 8) (a' := ([(0, am_R 32 i0), (1, am_I v1), (2, am_I v2), (3, am_I v3)], ([], (z, q1.2)))) rfl (fun c_2 => ?_) (fun c_2 => ?_)
  · refine to_cl 4 (lv := [(0, am_R 32 i0), (1, am_I v1), (2, am_I v2), (3, am_I v3)]) (st := []) (M := (z, q1.2)) (cb := (cvI1 z)) rfl (fun q hq => t_X9_within (by omega) hq) (fun q3 => ?_)
    refine to_if 1 (c := q3.1 = 0) (p1 := 30) (p2 := 21) (a' := ([(0, am_R 32 i0), (1, am_I v1), (2, am_I v2), (3, am_I v3)], ([], (z, q3.2)))) rfl (fun c_4 => ?_) (fun c_4 => ?_)
    · exact to_rt 2 (r := ((-102 : Int32), q3.2)) rfl
    · refine to_cl 4 (lv := [(0, am_R 32 i0), (1, am_I v1), (2, am_I v2), (3, am_I v3)]) (st := []) (M := (z, q3.2)) (cb := (cvI1 z)) rfl (fun q hq => t_X9_within (by omega) hq) (fun q5 => ?_)
      refine to_if 1 (c := ¬ q5.1 = 0) (p1 := 33) (p2 := 30) (a' := ([(0, am_R 32 i0), (1, am_I v1), (2, am_I v2), (3, am_I v3)], ([], (z, q5.2)))) rfl (fun c_6 => ?_) (fun c_6 => ?_)
      · refine to_if 4 (c := ¬ (xF q5.2 32 15 i0) = (60 : Int32)) (p1 := 45) (p2 := 42) (a' := ([(0, am_R 32 i0), (1, am_I v1), (2, am_I v2), (3, am_I v3)], ([], (z, q5.2)))) rfl (fun c_7 => ?_) (fun c_7 => ?_)
        · refine to_go 4 (pc' := 51) (a' := ([(0, am_R 32 i0), (1, am_I v1), (2, am_I v2), (3, am_I v3)], ([am_I (1 : Int32), am_I (xF q5.2 32 15 i0), am_R 32 i0], (z, q5.2)))) rfl ?_
          refine to_go 4 (pc' := 57) (a' := ([(0, am_R 32 i0), (1, am_I v1), (2, am_I v2), (3, am_I v3)], ([am_I v1, am_R 32 i0], (z, (sF q5.2 32 15 i0 ((xF q5.2 32 15 i0) + (1 : Int32))))))) rfl ?_
          refine to_cl 2 (lv := [(0, am_R 32 i0), (1, am_I v1), (2, am_I v2), (3, am_I v3)]) (st := []) (M := (z, (sF q5.2 32 15 i0 ((xF q5.2 32 15 i0) + (1 : Int32))))) (cb := (cvV1 z)) rfl (fun q hq => t_X9_layGain (by omega) hq) (fun q8 => ?_)
          refine to_if 2 (c := ¬ v3 = 0) (p1 := 72) (p2 := 65) (a' := ([(0, am_R 32 i0), (1, am_I v1), (2, am_I v2), (3, am_I v3)], ([], (z, q8)))) rfl (fun c_9 => ?_) (fun c_9 => ?_)
          · exact to_rt 3 (r := ((xF q8 32 31 i0), q8)) rfl
          · exact to_rt 4 (r := ((xF q8 32 30 i0), q8)) rfl
        · exact to_rt 2 (r := ((-103 : Int32), q5.2)) rfl
      · exact to_rt 2 (r := ((-102 : Int32), q5.2)) rfl
  · exact to_rt 2 (r := ((-101 : Int32), q1.2)) rfl
def b_X9_soonBy_29 (n : Nat) : Nat → Nat → Int32 → Int32 → Int32 → Int32 → am_X → Option (Int32 × am_X)
  | 0, _, _, _, _, _, _ => none
  | k + 1, i0, v2, v3, v4, v5, x => if (9 : Int32) < v5 then (some ((-1 : Int32), x)) else ((f_X9_mayDo n i0 (4 : Int32) ((10 : Int32) + v2) x).bind fun q2 => if q2.1 = 0 then ((f_X9_serve n i0 (4 : Int32) v3 (v4 + v5) q2.2).bind fun q4 => (f_X9_lapseOf n i0 (4 : Int32) ((v4 + v5) + (1 : Int32)) q4).bind fun q5 => b_X9_soonBy_29 n k i0 v2 v3 v4 (v5 + (1 : Int32)) q5) else (some (v5, q2.2)))
theorem tb_X9_soonBy_29 {n : Nat} {d : Nat} {z : am_X} (hd : 4 ≤ d) : ∀ (k : Nat) (i0 : Nat) (v2 : Int32) (v3 : Int32) (v4 : Int32) (v5 : Int32) (x : am_X), am_To d (am_tab pX9_soonBy) 29 ([(0, am_R 32 i0), (2, am_I v2), (3, am_I v3), (4, am_I v4), (5, am_I v5)], ([], (z, x))) (cvI1 z) (b_X9_soonBy_29 n k i0 v2 v3 v4 v5 x) := by
  intro k
  induction k with
  | zero =>
    intro i0 v2 v3 v4 v5 x
    exact to_0
  | succ k ih =>
    intro i0 v2 v3 v4 v5 x
    rw [b_X9_soonBy_29]
    refine to_if 3 (c := (9 : Int32) < v5) (p1 := 80) (p2 := 36) (a' := ([(0, am_R 32 i0), (2, am_I v2), (3, am_I v3), (4, am_I v4), (5, am_I v5)], ([], (z, x)))) rfl (fun c_1 => ?_) (fun c_1 => ?_)
    · exact to_rt 2 (r := ((-1 : Int32), x)) rfl
    · refine to_go 4 (pc' := 41) (a' := ([(0, am_R 32 i0), (2, am_I v2), (3, am_I v3), (4, am_I v4), (5, am_I v5)], ([am_I v2, am_I (10 : Int32), am_I (4 : Int32), am_R 32 i0], (z, x)))) rfl ?_
      refine to_cl 2 (lv := [(0, am_R 32 i0), (2, am_I v2), (3, am_I v3), (4, am_I v4), (5, am_I v5)]) (st := []) (M := (z, x)) (cb := (cvI1 z)) rfl (fun q hq => t_X9_mayDo (by omega) hq) (fun q2 => ?_)
      refine to_if 1 (c := q2.1 = 0) (p1 := 51) (p2 := 48) (a' := ([(0, am_R 32 i0), (2, am_I v2), (3, am_I v3), (4, am_I v4), (5, am_I v5)], ([], (z, q2.2)))) rfl (fun c_3 => ?_) (fun c_3 => ?_)
      · refine to_go 4 (pc' := 56) (a' := ([(0, am_R 32 i0), (2, am_I v2), (3, am_I v3), (4, am_I v4), (5, am_I v5)], ([am_I v4, am_I v3, am_I (4 : Int32), am_R 32 i0], (z, q2.2)))) rfl ?_
        refine to_cl 3 (lv := [(0, am_R 32 i0), (2, am_I v2), (3, am_I v3), (4, am_I v4), (5, am_I v5)]) (st := []) (M := (z, q2.2)) (cb := (cvV1 z)) rfl (fun q hq => t_X9_serve (by omega) hq) (fun q4 => ?_)
        refine to_go 4 (pc' := 68) (a' := ([(0, am_R 32 i0), (2, am_I v2), (3, am_I v3), (4, am_I v4), (5, am_I v5)], ([am_I v5, am_I v4, am_I (4 : Int32), am_R 32 i0], (z, q4)))) rfl ?_
        refine to_cl 4 (lv := [(0, am_R 32 i0), (2, am_I v2), (3, am_I v3), (4, am_I v4), (5, am_I v5)]) (st := []) (M := (z, q4)) (cb := (cvV1 z)) rfl (fun q hq => t_X9_lapseOf (by omega) hq) (fun q5 => ?_)
        refine to_go 2 (pc' := 29) (a' := ([(5, am_I (v5 + (1 : Int32))), (0, am_R 32 i0), (2, am_I v2), (3, am_I v3), (4, am_I v4)], ([], (z, q5)))) rfl ?_
        refine to_fg [1, 2, 3, 4, 0] (lv' := [(0, am_R 32 i0), (2, am_I v2), (3, am_I v3), (4, am_I v4), (5, am_I (v5 + (1 : Int32)))]) rfl ?_
        exact ih i0 v2 v3 v4 (v5 + (1 : Int32)) q5
      · exact to_rt 2 (r := (v5, q2.2)) rfl
def f_X9_soonBy (n : Nat) (i0 : Nat) (v1 : Int32) (v2 : Int32) (v3 : Int32) (x : am_X) : Option (Int32 × am_X) := if am_inB v1 5 = true then ((f_X9_copy n i0 v1 (4 : Int32) x).bind fun q2 => (f_X9_lapseOf n i0 (4 : Int32) ((xF x 32 6 i0) + (xA x 51 0 (Int32.toNatClampNeg v1))) q2).bind fun q3 => b_X9_soonBy_29 n n i0 v2 v3 ((xF x 32 6 i0) + (xA x 51 0 (Int32.toNatClampNeg v1))) (0 : Int32) q3) else none
theorem t_X9_soonBy {n : Nat} {d : Nat} {i0 : Nat} {v1 : Int32} {v2 : Int32} {v3 : Int32} {x z : am_X} {q : Int32 × am_X} (hd : 5 ≤ d) (h : f_X9_soonBy n i0 v1 v2 v3 x = some q) : am_Ev am_PR d 154 [am_R 32 i0, am_I v1, am_I v2, am_I v3] (z, x) (cvI1 z q) := by
  obtain ⟨d, rfl⟩ : ∃ e, d = e + 1 := ⟨d - 1, by omega⟩
  refine to_ev (P := (am_tab pX9_soonBy)) rfl (lv := [(0, am_R 32 i0), (1, am_I v1), (2, am_I v2), (3, am_I v3)]) rfl ?_ q h
  unfold f_X9_soonBy
  refine to_go 4 (pc' := 8) (a' := ([(0, am_R 32 i0), (1, am_I v1), (2, am_I v2), (3, am_I v3)], ([am_R 51 0, am_I (xF x 32 6 i0)], (z, x)))) rfl ?_
  refine to_gd 1 9 (c := am_inB v1 5 = true) (pc' := 10) (a' := ([(0, am_R 32 i0), (1, am_I v1), (2, am_I v2), (3, am_I v3)], ([am_I (xA x 51 0 (Int32.toNatClampNeg v1)), am_I (xF x 32 6 i0)], (z, x)))) rfl rfl (fun c_1 => ?_)
  refine to_go 4 (pc' := 15) (a' := ([(4, am_I ((xF x 32 6 i0) + (xA x 51 0 (Int32.toNatClampNeg v1)))), (0, am_R 32 i0), (1, am_I v1), (2, am_I v2), (3, am_I v3)], ([am_I v1, am_R 32 i0], (z, x)))) rfl ?_
  refine to_cl 2 (lv := [(4, am_I ((xF x 32 6 i0) + (xA x 51 0 (Int32.toNatClampNeg v1)))), (0, am_R 32 i0), (1, am_I v1), (2, am_I v2), (3, am_I v3)]) (st := []) (M := (z, x)) (cb := (cvV1 z)) rfl (fun q hq => t_X9_copy (by omega) hq) (fun q2 => ?_)
  refine to_cl 4 (lv := [(4, am_I ((xF x 32 6 i0) + (xA x 51 0 (Int32.toNatClampNeg v1)))), (0, am_R 32 i0), (1, am_I v1), (2, am_I v2), (3, am_I v3)]) (st := []) (M := (z, q2)) (cb := (cvV1 z)) rfl (fun q hq => t_X9_lapseOf (by omega) hq) (fun q3 => ?_)
  refine to_go 2 (pc' := 29) (a' := ([(5, am_I (0 : Int32)), (4, am_I ((xF x 32 6 i0) + (xA x 51 0 (Int32.toNatClampNeg v1)))), (0, am_R 32 i0), (1, am_I v1), (2, am_I v2), (3, am_I v3)], ([], (z, q3)))) rfl ?_
  refine to_fg [2, 4, 5, 1, 0] (lv' := [(0, am_R 32 i0), (2, am_I v2), (3, am_I v3), (4, am_I ((xF x 32 6 i0) + (xA x 51 0 (Int32.toNatClampNeg v1)))), (5, am_I (0 : Int32))]) rfl ?_
  exact tb_X9_soonBy_29 (by omega)  n i0 v2 v3 ((xF x 32 6 i0) + (xA x 51 0 (Int32.toNatClampNeg v1))) (0 : Int32) q3
def b_X9_soonNow_62 (n : Nat) (h5 : Nat → Int32 → Int32 → Int32 → Int32 → am_X → Option (Int32 × am_X)) (i0 : Nat) (v1 : Int32) (v2 : Int32) (v4 : Int32) (s0 : Int32) (x : am_X) : Option (Int32 × am_X) := h5 i0 v1 v2 s0 (v4 + (1 : Int32)) x
theorem tb_X9_soonNow_62 {n : Nat} {h5 : Nat → Int32 → Int32 → Int32 → Int32 → am_X → Option (Int32 × am_X)} {d : Nat} {z : am_X} (hd : 5 ≤ d) (hh5 : ∀ (i0 : Nat) (v1 : Int32) (v2 : Int32) (v3 : Int32) (v4 : Int32) (x : am_X), am_To d (am_tab pX9_soonNow) 5 ([(0, am_R 32 i0), (1, am_I v1), (2, am_I v2), (3, am_I v3), (4, am_I v4)], ([], (z, x))) (cvI1 z) (h5 i0 v1 v2 v3 v4 x)) (i0 : Nat) (v1 : Int32) (v2 : Int32) (v4 : Int32) (s0 : Int32) (x : am_X) : am_To d (am_tab pX9_soonNow) 62 ([(0, am_R 32 i0), (1, am_I v1), (2, am_I v2), (4, am_I v4)], ([am_I s0], (z, x))) (cvI1 z) (b_X9_soonNow_62 n h5 i0 v1 v2 v4 s0 x) := by
  unfold b_X9_soonNow_62
  refine to_go 3 (pc' := 5) (a' := ([(4, am_I (v4 + (1 : Int32))), (3, am_I s0), (0, am_R 32 i0), (1, am_I v1), (2, am_I v2)], ([], (z, x)))) rfl ?_
  refine to_fg [2, 3, 4, 1, 0] (lv' := [(0, am_R 32 i0), (1, am_I v1), (2, am_I v2), (3, am_I s0), (4, am_I (v4 + (1 : Int32)))]) rfl ?_
  exact hh5 i0 v1 v2 s0 (v4 + (1 : Int32)) x
def b_X9_soonNow_56 (n : Nat) (h5 : Nat → Int32 → Int32 → Int32 → Int32 → am_X → Option (Int32 × am_X)) (i0 : Nat) (v1 : Int32) (v2 : Int32) (v4 : Int32) (v5 : Int32) (x : am_X) : Option (Int32 × am_X) := b_X9_soonNow_62 n h5 i0 v1 v2 v4 v5 x
theorem tb_X9_soonNow_56 {n : Nat} {h5 : Nat → Int32 → Int32 → Int32 → Int32 → am_X → Option (Int32 × am_X)} {d : Nat} {z : am_X} (hd : 5 ≤ d) (hh5 : ∀ (i0 : Nat) (v1 : Int32) (v2 : Int32) (v3 : Int32) (v4 : Int32) (x : am_X), am_To d (am_tab pX9_soonNow) 5 ([(0, am_R 32 i0), (1, am_I v1), (2, am_I v2), (3, am_I v3), (4, am_I v4)], ([], (z, x))) (cvI1 z) (h5 i0 v1 v2 v3 v4 x)) (i0 : Nat) (v1 : Int32) (v2 : Int32) (v4 : Int32) (v5 : Int32) (x : am_X) : am_To d (am_tab pX9_soonNow) 56 ([(0, am_R 32 i0), (1, am_I v1), (2, am_I v2), (4, am_I v4), (5, am_I v5)], ([], (z, x))) (cvI1 z) (b_X9_soonNow_56 n h5 i0 v1 v2 v4 v5 x) := by
  unfold b_X9_soonNow_56
  refine to_go 2 (pc' := 62) (a' := ([(0, am_R 32 i0), (1, am_I v1), (2, am_I v2), (4, am_I v4), (5, am_I v5)], ([am_I v5], (z, x)))) rfl ?_
  refine to_fg [0, 1, 2, 3] (lv' := [(0, am_R 32 i0), (1, am_I v1), (2, am_I v2), (4, am_I v4)]) rfl ?_
  exact tb_X9_soonNow_62 (by omega) hh5  i0 v1 v2 v4 v5 x
def b_X9_soonNow_61 (n : Nat) (h5 : Nat → Int32 → Int32 → Int32 → Int32 → am_X → Option (Int32 × am_X)) (i0 : Nat) (v1 : Int32) (v2 : Int32) (v3 : Int32) (v4 : Int32) (x : am_X) : Option (Int32 × am_X) := b_X9_soonNow_62 n h5 i0 v1 v2 v4 v3 x
theorem tb_X9_soonNow_61 {n : Nat} {h5 : Nat → Int32 → Int32 → Int32 → Int32 → am_X → Option (Int32 × am_X)} {d : Nat} {z : am_X} (hd : 5 ≤ d) (hh5 : ∀ (i0 : Nat) (v1 : Int32) (v2 : Int32) (v3 : Int32) (v4 : Int32) (x : am_X), am_To d (am_tab pX9_soonNow) 5 ([(0, am_R 32 i0), (1, am_I v1), (2, am_I v2), (3, am_I v3), (4, am_I v4)], ([], (z, x))) (cvI1 z) (h5 i0 v1 v2 v3 v4 x)) (i0 : Nat) (v1 : Int32) (v2 : Int32) (v3 : Int32) (v4 : Int32) (x : am_X) : am_To d (am_tab pX9_soonNow) 61 ([(0, am_R 32 i0), (1, am_I v1), (2, am_I v2), (3, am_I v3), (4, am_I v4)], ([], (z, x))) (cvI1 z) (b_X9_soonNow_61 n h5 i0 v1 v2 v3 v4 x) := by
  unfold b_X9_soonNow_61
  refine to_go 1 (pc' := 62) (a' := ([(0, am_R 32 i0), (1, am_I v1), (2, am_I v2), (3, am_I v3), (4, am_I v4)], ([am_I v3], (z, x)))) rfl ?_
  refine to_fg [0, 1, 2, 4] (lv' := [(0, am_R 32 i0), (1, am_I v1), (2, am_I v2), (4, am_I v4)]) rfl ?_
  exact tb_X9_soonNow_62 (by omega) hh5  i0 v1 v2 v4 v3 x
def b_X9_soonNow_37 (n : Nat) (h5 : Nat → Int32 → Int32 → Int32 → Int32 → am_X → Option (Int32 × am_X)) (i0 : Nat) (v1 : Int32) (v2 : Int32) (v3 : Int32) (v4 : Int32) (s0 : Int32) (x : am_X) : Option (Int32 × am_X) := if s0 = (-1 : Int32) then (b_X9_soonNow_61 n h5 i0 v1 v2 v3 v4 x) else (if v3 = (-1 : Int32) then (b_X9_soonNow_56 n h5 i0 v1 v2 v4 s0 x) else (if v3 ≤ s0 then (b_X9_soonNow_61 n h5 i0 v1 v2 v3 v4 x) else (b_X9_soonNow_56 n h5 i0 v1 v2 v4 s0 x)))
theorem tb_X9_soonNow_37 {n : Nat} {h5 : Nat → Int32 → Int32 → Int32 → Int32 → am_X → Option (Int32 × am_X)} {d : Nat} {z : am_X} (hd : 5 ≤ d) (hh5 : ∀ (i0 : Nat) (v1 : Int32) (v2 : Int32) (v3 : Int32) (v4 : Int32) (x : am_X), am_To d (am_tab pX9_soonNow) 5 ([(0, am_R 32 i0), (1, am_I v1), (2, am_I v2), (3, am_I v3), (4, am_I v4)], ([], (z, x))) (cvI1 z) (h5 i0 v1 v2 v3 v4 x)) (i0 : Nat) (v1 : Int32) (v2 : Int32) (v3 : Int32) (v4 : Int32) (s0 : Int32) (x : am_X) : am_To d (am_tab pX9_soonNow) 37 ([(0, am_R 32 i0), (1, am_I v1), (2, am_I v2), (3, am_I v3), (4, am_I v4)], ([am_I s0], (z, x))) (cvI1 z) (b_X9_soonNow_37 n h5 i0 v1 v2 v3 v4 s0 x) := by
  unfold b_X9_soonNow_37
  refine to_if 4 (c := s0 = (-1 : Int32)) (p1 := 61) (p2 := 45) (a' := ([(5, am_I s0), (0, am_R 32 i0), (1, am_I v1), (2, am_I v2), (3, am_I v3), (4, am_I v4)], ([], (z, x)))) rfl (fun c_1 => ?_) (fun c_1 => ?_)
  · refine to_fg [1, 2, 3, 4, 5] (lv' := [(0, am_R 32 i0), (1, am_I v1), (2, am_I v2), (3, am_I v3), (4, am_I v4)]) rfl ?_
    exact tb_X9_soonNow_61 (by omega) hh5  i0 v1 v2 v3 v4 x
  · refine to_if 3 (c := v3 = (-1 : Int32)) (p1 := 56) (p2 := 50) (a' := ([(5, am_I s0), (0, am_R 32 i0), (1, am_I v1), (2, am_I v2), (3, am_I v3), (4, am_I v4)], ([], (z, x)))) rfl (fun c_2 => ?_) (fun c_2 => ?_)
    · refine to_fg [1, 2, 3, 5, 0] (lv' := [(0, am_R 32 i0), (1, am_I v1), (2, am_I v2), (4, am_I v4), (5, am_I s0)]) rfl ?_
      exact tb_X9_soonNow_56 (by omega) hh5  i0 v1 v2 v4 s0 x
    · refine to_if 3 (c := v3 ≤ s0) (p1 := 61) (p2 := 56) (a' := ([(5, am_I s0), (0, am_R 32 i0), (1, am_I v1), (2, am_I v2), (3, am_I v3), (4, am_I v4)], ([], (z, x)))) rfl (fun c_3 => ?_) (fun c_3 => ?_)
      · refine to_fg [1, 2, 3, 4, 5] (lv' := [(0, am_R 32 i0), (1, am_I v1), (2, am_I v2), (3, am_I v3), (4, am_I v4)]) rfl ?_
        exact tb_X9_soonNow_61 (by omega) hh5  i0 v1 v2 v3 v4 x
      · refine to_fg [1, 2, 3, 5, 0] (lv' := [(0, am_R 32 i0), (1, am_I v1), (2, am_I v2), (4, am_I v4), (5, am_I s0)]) rfl ?_
        exact tb_X9_soonNow_56 (by omega) hh5  i0 v1 v2 v4 s0 x
def b_X9_soonNow_5 (n : Nat) : Nat → Nat → Int32 → Int32 → Int32 → Int32 → am_X → Option (Int32 × am_X)
  | 0, _, _, _, _, _, _ => none
  | k + 1, i0, v1, v2, v3, v4, x => if (3 : Int32) ≤ v4 then (some (v3, x)) else (if am_inB v2 4 = true then ((f_X9_has n (xA x 45 0 (Int32.toNatClampNeg v2)) v4 x).bind fun q3 => if q3.1 = 0 then (b_X9_soonNow_37 n (b_X9_soonNow_5 n k) i0 v1 v2 v3 v4 (-1 : Int32) q3.2) else ((f_X9_soonBy n i0 v1 v2 v4 q3.2).bind fun q5 => b_X9_soonNow_37 n (b_X9_soonNow_5 n k) i0 v1 v2 v3 v4 q5.1 q5.2)) else none)
theorem tb_X9_soonNow_5 {n : Nat} {d : Nat} {z : am_X} (hd : 5 ≤ d) : ∀ (k : Nat) (i0 : Nat) (v1 : Int32) (v2 : Int32) (v3 : Int32) (v4 : Int32) (x : am_X), am_To d (am_tab pX9_soonNow) 5 ([(0, am_R 32 i0), (1, am_I v1), (2, am_I v2), (3, am_I v3), (4, am_I v4)], ([], (z, x))) (cvI1 z) (b_X9_soonNow_5 n k i0 v1 v2 v3 v4 x) := by
  intro k
  induction k with
  | zero =>
    intro i0 v1 v2 v3 v4 x
    exact to_0
  | succ k ih =>
    intro i0 v1 v2 v3 v4 x
    rw [b_X9_soonNow_5]
    refine to_if 3 (c := (3 : Int32) ≤ v4) (p1 := 69) (p2 := 11) (a' := ([(0, am_R 32 i0), (1, am_I v1), (2, am_I v2), (3, am_I v3), (4, am_I v4)], ([], (z, x)))) rfl (fun c_1 => ?_) (fun c_1 => ?_)
    · exact to_rt 2 (r := (v3, x)) rfl
    · refine to_gd 3 16 (c := am_inB v2 4 = true) (pc' := 17) (a' := ([(0, am_R 32 i0), (1, am_I v1), (2, am_I v2), (3, am_I v3), (4, am_I v4)], ([am_I (xA x 45 0 (Int32.toNatClampNeg v2))], (z, x)))) rfl rfl (fun c_2 => ?_)
      refine to_cl 2 (lv := [(0, am_R 32 i0), (1, am_I v1), (2, am_I v2), (3, am_I v3), (4, am_I v4)]) (st := []) (M := (z, x)) (cb := (cvI1 z)) rfl (fun q hq => t_X9_has (by omega) hq) (fun q3 => ?_)
      refine to_if 1 (c := q3.1 = 0) (p1 := 36) (p2 := 25) (a' := ([(0, am_R 32 i0), (1, am_I v1), (2, am_I v2), (3, am_I v3), (4, am_I v4)], ([], (z, q3.2)))) rfl (fun c_4 => ?_) (fun c_4 => ?_)
      · refine to_go 1 (pc' := 37) (a' := ([(0, am_R 32 i0), (1, am_I v1), (2, am_I v2), (3, am_I v3), (4, am_I v4)], ([am_I (-1 : Int32)], (z, q3.2)))) rfl ?_
        refine to_fg [0, 1, 2, 3, 4] (lv' := [(0, am_R 32 i0), (1, am_I v1), (2, am_I v2), (3, am_I v3), (4, am_I v4)]) rfl ?_
        exact tb_X9_soonNow_37 (by omega) ih  i0 v1 v2 v3 v4 (-1 : Int32) q3.2
      · refine to_go 4 (pc' := 30) (a' := ([(0, am_R 32 i0), (1, am_I v1), (2, am_I v2), (3, am_I v3), (4, am_I v4)], ([am_I v4, am_I v2, am_I v1, am_R 32 i0], (z, q3.2)))) rfl ?_
        refine to_cl 1 (lv := [(0, am_R 32 i0), (1, am_I v1), (2, am_I v2), (3, am_I v3), (4, am_I v4)]) (st := []) (M := (z, q3.2)) (cb := (cvI1 z)) rfl (fun q hq => t_X9_soonBy (by omega) hq) (fun q5 => ?_)
        refine to_go 1 (pc' := 37) (a' := ([(0, am_R 32 i0), (1, am_I v1), (2, am_I v2), (3, am_I v3), (4, am_I v4)], ([am_I q5.1], (z, q5.2)))) rfl ?_
        refine to_fg [0, 1, 2, 3, 4] (lv' := [(0, am_R 32 i0), (1, am_I v1), (2, am_I v2), (3, am_I v3), (4, am_I v4)]) rfl ?_
        exact tb_X9_soonNow_37 (by omega) ih  i0 v1 v2 v3 v4 q5.1 q5.2
def f_X9_soonNow (n : Nat) (i0 : Nat) (v1 : Int32) (v2 : Int32) (x : am_X) : Option (Int32 × am_X) := b_X9_soonNow_5 n n i0 v1 v2 (-1 : Int32) (0 : Int32) x
theorem t_X9_soonNow {n : Nat} {d : Nat} {i0 : Nat} {v1 : Int32} {v2 : Int32} {x z : am_X} {q : Int32 × am_X} (hd : 6 ≤ d) (h : f_X9_soonNow n i0 v1 v2 x = some q) : am_Ev am_PR d 155 [am_R 32 i0, am_I v1, am_I v2] (z, x) (cvI1 z q) := by
  obtain ⟨d, rfl⟩ : ∃ e, d = e + 1 := ⟨d - 1, by omega⟩
  refine to_ev (P := (am_tab pX9_soonNow)) rfl (lv := [(0, am_R 32 i0), (1, am_I v1), (2, am_I v2)]) rfl ?_ q h
  unfold f_X9_soonNow
  refine to_go 4 (pc' := 5) (a' := ([(4, am_I (0 : Int32)), (3, am_I (-1 : Int32)), (0, am_R 32 i0), (1, am_I v1), (2, am_I v2)], ([], (z, x)))) rfl ?_
  refine to_fg [2, 3, 4, 1, 0] (lv' := [(0, am_R 32 i0), (1, am_I v1), (2, am_I v2), (3, am_I (-1 : Int32)), (4, am_I (0 : Int32))]) rfl ?_
  exact tb_X9_soonNow_5 (by omega)  n i0 v1 v2 (-1 : Int32) (0 : Int32) x
def f_X9_soonTold (n : Nat) (i0 : Nat) (v1 : Int32) (v2 : Int32) (x : am_X) : Option (Int32 × am_X) := if am_inB v1 5 = true then (if (xA x 50 0 (Int32.toNatClampNeg v1)) ≤ 0 then ((f_X9_soonNow n i0 v1 v2 x).bind fun q3 => some (q3.1, q3.2)) else (some ((-103 : Int32), x))) else none
theorem t_X9_soonTold {n : Nat} {d : Nat} {i0 : Nat} {v1 : Int32} {v2 : Int32} {x z : am_X} {q : Int32 × am_X} (hd : 7 ≤ d) (h : f_X9_soonTold n i0 v1 v2 x = some q) : am_Ev am_PR d 156 [am_R 32 i0, am_I v1, am_I v2] (z, x) (cvI1 z q) := by
  obtain ⟨d, rfl⟩ : ∃ e, d = e + 1 := ⟨d - 1, by omega⟩
  refine to_ev (P := (am_tab pX9_soonTold)) rfl (lv := [(0, am_R 32 i0), (1, am_I v1), (2, am_I v2)]) rfl ?_ q h
  unfold f_X9_soonTold
  refine to_gd 3 5 (c := am_inB v1 5 = true) (pc' := 6) (a' := ([(0, am_R 32 i0), (1, am_I v1), (2, am_I v2)], ([am_I (xA x 50 0 (Int32.toNatClampNeg v1))], (z, x)))) rfl rfl (fun c_1 => ?_)
  refine to_if 1 (c := (xA x 50 0 (Int32.toNatClampNeg v1)) ≤ 0) (p1 := 14) (p2 := 9) (a' := ([(0, am_R 32 i0), (1, am_I v1), (2, am_I v2)], ([], (z, x)))) rfl (fun c_2 => ?_) (fun c_2 => ?_)
  · refine to_cl 4 (lv := [(0, am_R 32 i0), (1, am_I v1), (2, am_I v2)]) (st := []) (M := (z, x)) (cb := (cvI1 z)) rfl (fun q hq => t_X9_soonNow (by omega) hq) (fun q3 => ?_)
    exact to_rt 1 (r := (q3.1, q3.2)) rfl
  · exact to_rt 3 (r := ((-103 : Int32), x)) rfl
def f_X9_soon (n : Nat) (i0 : Nat) (v1 : Int32) (v2 : Int32) (x : am_X) : Option (Int32 × am_X) := (f_X9_isPerson n i0 v1 x).bind fun q1 => if q1.1 = 0 then (some ((-101 : Int32), q1.2)) else ((f_X9_isDeed n v2 q1.2).bind fun q3 => if q3.1 = 0 then (some ((-101 : Int32), q3.2)) else ((f_X9_soonTold n i0 v1 v2 q3.2).bind fun q5 => some (q5.1, q5.2)))
theorem t_X9_soon {n : Nat} {d : Nat} {i0 : Nat} {v1 : Int32} {v2 : Int32} {x z : am_X} {q : Int32 × am_X} (hd : 8 ≤ d) (h : f_X9_soon n i0 v1 v2 x = some q) : am_Ev am_PR d 157 [am_R 32 i0, am_I v1, am_I v2] (z, x) (cvI1 z q) := by
  obtain ⟨d, rfl⟩ : ∃ e, d = e + 1 := ⟨d - 1, by omega⟩
  refine to_ev (P := (am_tab pX9_soon)) rfl (lv := [(0, am_R 32 i0), (1, am_I v1), (2, am_I v2)]) rfl ?_ q h
  unfold f_X9_soon
  refine to_cl 3 (lv := [(0, am_R 32 i0), (1, am_I v1), (2, am_I v2)]) (st := []) (M := (z, x)) (cb := (cvI1 z)) rfl (fun q hq => t_X9_isPerson (by omega) hq) (fun q1 => ?_)
  refine to_if 1 (c := q1.1 = 0) (p1 := 24) (p2 := 8) (a' := ([(0, am_R 32 i0), (1, am_I v1), (2, am_I v2)], ([], (z, q1.2)))) rfl (fun c_2 => ?_) (fun c_2 => ?_)
  · exact to_rt 2 (r := ((-101 : Int32), q1.2)) rfl
  · refine to_cl 2 (lv := [(0, am_R 32 i0), (1, am_I v1), (2, am_I v2)]) (st := []) (M := (z, q1.2)) (cb := (cvI1 z)) rfl (fun q hq => t_X9_isDeed (by omega) hq) (fun q3 => ?_)
    refine to_if 1 (c := q3.1 = 0) (p1 := 24) (p2 := 15) (a' := ([(0, am_R 32 i0), (1, am_I v1), (2, am_I v2)], ([], (z, q3.2)))) rfl (fun c_4 => ?_) (fun c_4 => ?_)
    · exact to_rt 2 (r := ((-101 : Int32), q3.2)) rfl
    · refine to_cl 4 (lv := [(0, am_R 32 i0), (1, am_I v1), (2, am_I v2)]) (st := []) (M := (z, q3.2)) (cb := (cvI1 z)) rfl (fun q hq => t_X9_soonTold (by omega) hq) (fun q5 => ?_)
      exact to_rt 2 (r := (q5.1, q5.2)) rfl
def b_X9_canAny_67 (n : Nat) (h5 : Nat → Int32 → Int32 → Int32 → Int32 → am_X → Option (Int32 × am_X)) (i0 : Nat) (v1 : Int32) (v2 : Int32) (v4 : Int32) (s0 : Int32) (x : am_X) : Option (Int32 × am_X) := h5 i0 v1 v2 s0 (v4 + (1 : Int32)) x
theorem tb_X9_canAny_67 {n : Nat} {h5 : Nat → Int32 → Int32 → Int32 → Int32 → am_X → Option (Int32 × am_X)} {d : Nat} {z : am_X} (hd : 3 ≤ d) (hh5 : ∀ (i0 : Nat) (v1 : Int32) (v2 : Int32) (v3 : Int32) (v4 : Int32) (x : am_X), am_To d (am_tab pX9_canAny) 5 ([(0, am_R 32 i0), (1, am_I v1), (2, am_I v2), (3, am_I v3), (4, am_I v4)], ([], (z, x))) (cvI1 z) (h5 i0 v1 v2 v3 v4 x)) (i0 : Nat) (v1 : Int32) (v2 : Int32) (v4 : Int32) (s0 : Int32) (x : am_X) : am_To d (am_tab pX9_canAny) 67 ([(0, am_R 32 i0), (1, am_I v1), (2, am_I v2), (4, am_I v4)], ([am_I s0], (z, x))) (cvI1 z) (b_X9_canAny_67 n h5 i0 v1 v2 v4 s0 x) := by
  unfold b_X9_canAny_67
  refine to_go 3 (pc' := 5) (a' := ([(4, am_I (v4 + (1 : Int32))), (3, am_I s0), (0, am_R 32 i0), (1, am_I v1), (2, am_I v2)], ([], (z, x)))) rfl ?_
  refine to_fg [2, 3, 4, 1, 0] (lv' := [(0, am_R 32 i0), (1, am_I v1), (2, am_I v2), (3, am_I s0), (4, am_I (v4 + (1 : Int32)))]) rfl ?_
  exact hh5 i0 v1 v2 s0 (v4 + (1 : Int32)) x
def b_X9_canAny_62 (n : Nat) (h5 : Nat → Int32 → Int32 → Int32 → Int32 → am_X → Option (Int32 × am_X)) (i0 : Nat) (v1 : Int32) (v2 : Int32) (v4 : Int32) (x : am_X) : Option (Int32 × am_X) := b_X9_canAny_67 n h5 i0 v1 v2 v4 (1 : Int32) x
theorem tb_X9_canAny_62 {n : Nat} {h5 : Nat → Int32 → Int32 → Int32 → Int32 → am_X → Option (Int32 × am_X)} {d : Nat} {z : am_X} (hd : 3 ≤ d) (hh5 : ∀ (i0 : Nat) (v1 : Int32) (v2 : Int32) (v3 : Int32) (v4 : Int32) (x : am_X), am_To d (am_tab pX9_canAny) 5 ([(0, am_R 32 i0), (1, am_I v1), (2, am_I v2), (3, am_I v3), (4, am_I v4)], ([], (z, x))) (cvI1 z) (h5 i0 v1 v2 v3 v4 x)) (i0 : Nat) (v1 : Int32) (v2 : Int32) (v4 : Int32) (x : am_X) : am_To d (am_tab pX9_canAny) 62 ([(0, am_R 32 i0), (1, am_I v1), (2, am_I v2), (4, am_I v4)], ([], (z, x))) (cvI1 z) (b_X9_canAny_62 n h5 i0 v1 v2 v4 x) := by
  unfold b_X9_canAny_62
  refine to_go 2 (pc' := 67) (a' := ([(0, am_R 32 i0), (1, am_I v1), (2, am_I v2), (4, am_I v4)], ([am_I (1 : Int32)], (z, x)))) rfl ?_
  refine to_fg [0, 1, 2, 3] (lv' := [(0, am_R 32 i0), (1, am_I v1), (2, am_I v2), (4, am_I v4)]) rfl ?_
  exact tb_X9_canAny_67 (by omega) hh5  i0 v1 v2 v4 (1 : Int32) x
def b_X9_canAny_66 (n : Nat) (h5 : Nat → Int32 → Int32 → Int32 → Int32 → am_X → Option (Int32 × am_X)) (i0 : Nat) (v1 : Int32) (v2 : Int32) (v4 : Int32) (x : am_X) : Option (Int32 × am_X) := b_X9_canAny_67 n h5 i0 v1 v2 v4 (0 : Int32) x
theorem tb_X9_canAny_66 {n : Nat} {h5 : Nat → Int32 → Int32 → Int32 → Int32 → am_X → Option (Int32 × am_X)} {d : Nat} {z : am_X} (hd : 3 ≤ d) (hh5 : ∀ (i0 : Nat) (v1 : Int32) (v2 : Int32) (v3 : Int32) (v4 : Int32) (x : am_X), am_To d (am_tab pX9_canAny) 5 ([(0, am_R 32 i0), (1, am_I v1), (2, am_I v2), (3, am_I v3), (4, am_I v4)], ([], (z, x))) (cvI1 z) (h5 i0 v1 v2 v3 v4 x)) (i0 : Nat) (v1 : Int32) (v2 : Int32) (v4 : Int32) (x : am_X) : am_To d (am_tab pX9_canAny) 66 ([(0, am_R 32 i0), (1, am_I v1), (2, am_I v2), (4, am_I v4)], ([], (z, x))) (cvI1 z) (b_X9_canAny_66 n h5 i0 v1 v2 v4 x) := by
  unfold b_X9_canAny_66
  refine to_go 1 (pc' := 67) (a' := ([(0, am_R 32 i0), (1, am_I v1), (2, am_I v2), (4, am_I v4)], ([am_I (0 : Int32)], (z, x)))) rfl ?_
  refine to_fg [0, 1, 2, 3] (lv' := [(0, am_R 32 i0), (1, am_I v1), (2, am_I v2), (4, am_I v4)]) rfl ?_
  exact tb_X9_canAny_67 (by omega) hh5  i0 v1 v2 v4 (0 : Int32) x
def b_X9_canAny_5 (n : Nat) : Nat → Nat → Int32 → Int32 → Int32 → Int32 → am_X → Option (Int32 × am_X)
  | 0, _, _, _, _, _, _ => none
  | k + 1, i0, v1, v2, v3, v4, x => if (xF x 32 7 i0) ≤ v4 then (if am_bz v3 = true then some (v3, x) else none) else ((f_X9_copy n i0 v4 (4 : Int32) x).bind fun q2 => if am_inB v4 5 = true then ((f_X9_lapseOf n i0 (4 : Int32) ((xF q2 32 6 i0) + (xA q2 51 0 (Int32.toNatClampNeg v4))) q2).bind fun q4 => if ¬ v3 = 0 then (b_X9_canAny_62 n (b_X9_canAny_5 n k) i0 v1 v2 v4 q4) else (if am_inB v4 5 = true then (if ¬ (xA q4 52 0 (Int32.toNatClampNeg v4)) = 0 then (b_X9_canAny_66 n (b_X9_canAny_5 n k) i0 v1 v2 v4 q4) else ((f_X9_isCovered n i0 (4 : Int32) v1 v2 q4).bind fun q8 => if q8.1 = 0 then (b_X9_canAny_66 n (b_X9_canAny_5 n k) i0 v1 v2 v4 q8.2) else (b_X9_canAny_62 n (b_X9_canAny_5 n k) i0 v1 v2 v4 q8.2))) else none)) else none)
theorem tb_X9_canAny_5 {n : Nat} {d : Nat} {z : am_X} (hd : 3 ≤ d) : ∀ (k : Nat) (i0 : Nat) (v1 : Int32) (v2 : Int32) (v3 : Int32) (v4 : Int32) (x : am_X), am_To d (am_tab pX9_canAny) 5 ([(0, am_R 32 i0), (1, am_I v1), (2, am_I v2), (3, am_I v3), (4, am_I v4)], ([], (z, x))) (cvI1 z) (b_X9_canAny_5 n k i0 v1 v2 v3 v4 x) := by
  intro k
  induction k with
  | zero =>
    intro i0 v1 v2 v3 v4 x
    exact to_0
  | succ k ih =>
    intro i0 v1 v2 v3 v4 x
    rw [b_X9_canAny_5]
    refine to_if 4 (c := (xF x 32 7 i0) ≤ v4) (p1 := 74) (p2 := 14) (a' := ([(0, am_R 32 i0), (1, am_I v1), (2, am_I v2), (3, am_I v3), (4, am_I v4)], ([], (z, x)))) rfl (fun c_1 => ?_) (fun c_1 => ?_)
    · exact to_rz 1 75 (c := am_bz v3 = true) (r := (v3, x)) rfl rfl
    · refine to_cl 4 (lv := [(0, am_R 32 i0), (1, am_I v1), (2, am_I v2), (3, am_I v3), (4, am_I v4)]) (st := []) (M := (z, x)) (cb := (cvV1 z)) rfl (fun q hq => t_X9_copy (by omega) hq) (fun q2 => ?_)
      refine to_go 4 (pc' := 27) (a' := ([(0, am_R 32 i0), (1, am_I v1), (2, am_I v2), (3, am_I v3), (4, am_I v4)], ([am_I (xF q2 32 6 i0), am_I (4 : Int32), am_R 32 i0], (z, q2)))) rfl ?_
      refine to_gd 3 33 (c := am_inB v4 5 = true) (pc' := 34) (a' := ([(0, am_R 32 i0), (1, am_I v1), (2, am_I v2), (3, am_I v3), (4, am_I v4)], ([am_I (xA q2 51 0 (Int32.toNatClampNeg v4)), am_I (xF q2 32 6 i0), am_I (4 : Int32), am_R 32 i0], (z, q2)))) rfl rfl (fun c_3 => ?_)
      refine to_cl 2 (lv := [(0, am_R 32 i0), (1, am_I v1), (2, am_I v2), (3, am_I v3), (4, am_I v4)]) (st := []) (M := (z, q2)) (cb := (cvV1 z)) rfl (fun q hq => t_X9_lapseOf (by omega) hq) (fun q4 => ?_)
      refine to_if 2 (c := ¬ v3 = 0) (p1 := 62) (p2 := 42) (a' := ([(0, am_R 32 i0), (1, am_I v1), (2, am_I v2), (3, am_I v3), (4, am_I v4)], ([], (z, q4)))) rfl (fun c_5 => ?_) (fun c_5 => ?_)
      · refine to_fg [0, 1, 2, 4] (lv' := [(0, am_R 32 i0), (1, am_I v1), (2, am_I v2), (4, am_I v4)]) rfl ?_
        exact tb_X9_canAny_62 (by omega) ih  i0 v1 v2 v4 q4
      · refine to_gd 3 48 (c := am_inB v4 5 = true) (pc' := 49) (a' := ([(0, am_R 32 i0), (1, am_I v1), (2, am_I v2), (3, am_I v3), (4, am_I v4)], ([am_I (xA q4 52 0 (Int32.toNatClampNeg v4))], (z, q4)))) rfl rfl (fun c_6 => ?_)
        refine to_if 1 (c := ¬ (xA q4 52 0 (Int32.toNatClampNeg v4)) = 0) (p1 := 66) (p2 := 52) (a' := ([(0, am_R 32 i0), (1, am_I v1), (2, am_I v2), (3, am_I v3), (4, am_I v4)], ([], (z, q4)))) rfl (fun c_7 => ?_) (fun c_7 => ?_)
        · refine to_fg [0, 1, 2, 4] (lv' := [(0, am_R 32 i0), (1, am_I v1), (2, am_I v2), (4, am_I v4)]) rfl ?_
          exact tb_X9_canAny_66 (by omega) ih  i0 v1 v2 v4 q4
        · refine to_go 4 (pc' := 56) (a' := ([(0, am_R 32 i0), (1, am_I v1), (2, am_I v2), (3, am_I v3), (4, am_I v4)], ([am_I v2, am_I v1, am_I (4 : Int32), am_R 32 i0], (z, q4)))) rfl ?_
          refine to_cl 1 (lv := [(0, am_R 32 i0), (1, am_I v1), (2, am_I v2), (3, am_I v3), (4, am_I v4)]) (st := []) (M := (z, q4)) (cb := (cvI1 z)) rfl (fun q hq => t_X9_isCovered (by omega) hq) (fun q8 => ?_)
          refine to_if 1 (c := q8.1 = 0) (p1 := 66) (p2 := 62) (a' := ([(0, am_R 32 i0), (1, am_I v1), (2, am_I v2), (3, am_I v3), (4, am_I v4)], ([], (z, q8.2)))) rfl (fun c_9 => ?_) (fun c_9 => ?_)
          · refine to_fg [0, 1, 2, 4] (lv' := [(0, am_R 32 i0), (1, am_I v1), (2, am_I v2), (4, am_I v4)]) rfl ?_
            exact tb_X9_canAny_66 (by omega) ih  i0 v1 v2 v4 q8.2
          · refine to_fg [0, 1, 2, 4] (lv' := [(0, am_R 32 i0), (1, am_I v1), (2, am_I v2), (4, am_I v4)]) rfl ?_
            exact tb_X9_canAny_62 (by omega) ih  i0 v1 v2 v4 q8.2
def f_X9_canAny (n : Nat) (i0 : Nat) (v1 : Int32) (v2 : Int32) (x : am_X) : Option (Int32 × am_X) := b_X9_canAny_5 n n i0 v1 v2 (0 : Int32) (0 : Int32) x
theorem t_X9_canAny {n : Nat} {d : Nat} {i0 : Nat} {v1 : Int32} {v2 : Int32} {x z : am_X} {q : Int32 × am_X} (hd : 4 ≤ d) (h : f_X9_canAny n i0 v1 v2 x = some q) : am_Ev am_PR d 158 [am_R 32 i0, am_I v1, am_I v2] (z, x) (cvI1 z q) := by
  obtain ⟨d, rfl⟩ : ∃ e, d = e + 1 := ⟨d - 1, by omega⟩
  refine to_ev (P := (am_tab pX9_canAny)) rfl (lv := [(0, am_R 32 i0), (1, am_I v1), (2, am_I v2)]) rfl ?_ q h
  unfold f_X9_canAny
  refine to_go 4 (pc' := 5) (a' := ([(4, am_I (0 : Int32)), (3, am_I (0 : Int32)), (0, am_R 32 i0), (1, am_I v1), (2, am_I v2)], ([], (z, x)))) rfl ?_
  refine to_fg [2, 3, 4, 1, 0] (lv' := [(0, am_R 32 i0), (1, am_I v1), (2, am_I v2), (3, am_I (0 : Int32)), (4, am_I (0 : Int32))]) rfl ?_
  exact tb_X9_canAny_5 (by omega)  n i0 v1 v2 (0 : Int32) (0 : Int32) x
def b_X9_keptNow_2 (n : Nat) : Nat → Nat → Int32 → Int32 → am_X → Option (Int32 × am_X)
  | 0, _, _, _, _ => none
  | k + 1, i0, v1, v2, x => if (9 : Int32) < v2 then (some ((-1 : Int32), x)) else ((f_X9_canAny n i0 v1 v2 x).bind fun q2 => if ¬ q2.1 = 0 then (b_X9_keptNow_2 n k i0 v1 (v2 + (1 : Int32)) q2.2) else (some (v2, q2.2)))
theorem tb_X9_keptNow_2 {n : Nat} {d : Nat} {z : am_X} (hd : 4 ≤ d) : ∀ (k : Nat) (i0 : Nat) (v1 : Int32) (v2 : Int32) (x : am_X), am_To d (am_tab pX9_keptNow) 2 ([(0, am_R 32 i0), (1, am_I v1), (2, am_I v2)], ([], (z, x))) (cvI1 z) (b_X9_keptNow_2 n k i0 v1 v2 x) := by
  intro k
  induction k with
  | zero =>
    intro i0 v1 v2 x
    exact to_0
  | succ k ih =>
    intro i0 v1 v2 x
    rw [b_X9_keptNow_2]
    refine to_if 3 (c := (9 : Int32) < v2) (p1 := 25) (p2 := 8) (a' := ([(0, am_R 32 i0), (1, am_I v1), (2, am_I v2)], ([], (z, x)))) rfl (fun c_1 => ?_) (fun c_1 => ?_)
    · exact to_rt 2 (r := ((-1 : Int32), x)) rfl
    · refine to_cl 4 (lv := [(0, am_R 32 i0), (1, am_I v1), (2, am_I v2)]) (st := []) (M := (z, x)) (cb := (cvI1 z)) rfl (fun q hq => t_X9_canAny (by omega) hq) (fun q2 => ?_)
      refine to_if 1 (c := ¬ q2.1 = 0) (p1 := 19) (p2 := 17) (a' := ([(0, am_R 32 i0), (1, am_I v1), (2, am_I v2)], ([], (z, q2.2)))) rfl (fun c_3 => ?_) (fun c_3 => ?_)
      · refine to_go 2 (pc' := 2) (a' := ([(2, am_I (v2 + (1 : Int32))), (0, am_R 32 i0), (1, am_I v1)], ([], (z, q2.2)))) rfl ?_
        refine to_fg [1, 2, 0] (lv' := [(0, am_R 32 i0), (1, am_I v1), (2, am_I (v2 + (1 : Int32)))]) rfl ?_
        exact ih i0 v1 (v2 + (1 : Int32)) q2.2
      · exact to_rt 2 (r := (v2, q2.2)) rfl
def f_X9_keptNow (n : Nat) (i0 : Nat) (v1 : Int32) (x : am_X) : Option (Int32 × am_X) := b_X9_keptNow_2 n n i0 v1 (1 : Int32) x
theorem t_X9_keptNow {n : Nat} {d : Nat} {i0 : Nat} {v1 : Int32} {x z : am_X} {q : Int32 × am_X} (hd : 5 ≤ d) (h : f_X9_keptNow n i0 v1 x = some q) : am_Ev am_PR d 159 [am_R 32 i0, am_I v1] (z, x) (cvI1 z q) := by
  obtain ⟨d, rfl⟩ : ∃ e, d = e + 1 := ⟨d - 1, by omega⟩
  refine to_ev (P := (am_tab pX9_keptNow)) rfl (lv := [(0, am_R 32 i0), (1, am_I v1)]) rfl ?_ q h
  unfold f_X9_keptNow
  refine to_go 2 (pc' := 2) (a' := ([(2, am_I (1 : Int32)), (0, am_R 32 i0), (1, am_I v1)], ([], (z, x)))) rfl ?_
  refine to_fg [1, 2, 0] (lv' := [(0, am_R 32 i0), (1, am_I v1), (2, am_I (1 : Int32))]) rfl ?_
  exact tb_X9_keptNow_2 (by omega)  n i0 v1 (1 : Int32) x
def f_X9_kept (n : Nat) (i0 : Nat) (v1 : Int32) (x : am_X) : Option (Int32 × am_X) := (f_X9_isDeed n v1 x).bind fun q1 => if ¬ q1.1 = 0 then (if (xF q1.2 32 0 i0) = 0 then (some ((-103 : Int32), q1.2)) else ((f_X9_keptNow n i0 v1 q1.2).bind fun q4 => some (q4.1, q4.2))) else (some ((-101 : Int32), q1.2))
theorem t_X9_kept {n : Nat} {d : Nat} {i0 : Nat} {v1 : Int32} {x z : am_X} {q : Int32 × am_X} (hd : 6 ≤ d) (h : f_X9_kept n i0 v1 x = some q) : am_Ev am_PR d 160 [am_R 32 i0, am_I v1] (z, x) (cvI1 z q) := by
  obtain ⟨d, rfl⟩ : ∃ e, d = e + 1 := ⟨d - 1, by omega⟩
  refine to_ev (P := (am_tab pX9_kept)) rfl (lv := [(0, am_R 32 i0), (1, am_I v1)]) rfl ?_ q h
  unfold f_X9_kept
  refine to_cl 2 (lv := [(0, am_R 32 i0), (1, am_I v1)]) (st := []) (M := (z, x)) (cb := (cvI1 z)) rfl (fun q hq => t_X9_isDeed (by omega) hq) (fun q1 => ?_)
  refine to_if 1 (c := ¬ q1.1 = 0) (p1 := 10) (p2 := 7) (a' := ([(0, am_R 32 i0), (1, am_I v1)], ([], (z, q1.2)))) rfl (fun c_2 => ?_) (fun c_2 => ?_)
  · refine to_if 3 (c := (xF q1.2 32 0 i0) = 0) (p1 := 25) (p2 := 17) (a' := ([(0, am_R 32 i0), (1, am_I v1)], ([], (z, q1.2)))) rfl (fun c_3 => ?_) (fun c_3 => ?_)
    · exact to_rt 2 (r := ((-103 : Int32), q1.2)) rfl
    · refine to_cl 3 (lv := [(0, am_R 32 i0), (1, am_I v1)]) (st := []) (M := (z, q1.2)) (cb := (cvI1 z)) rfl (fun q hq => t_X9_keptNow (by omega) hq) (fun q4 => ?_)
      exact to_rt 2 (r := (q4.1, q4.2)) rfl
  · exact to_rt 2 (r := ((-101 : Int32), q1.2)) rfl
def b_X9_book_89 (n : Nat) : Nat → Nat → Int32 → Int32 → Int32 → am_X → Option (Int32 × am_X)
  | 0, _, _, _, _, _ => none
  | k + 1, i0, v1, v2, v3, x => if (12 : Int32) ≤ v3 then (some (v2, x)) else (if am_inB (((12 : Int32) * v1) + v3) 60 = true then (if am_inB v3 12 = true then (b_X9_book_89 n k i0 v1 v2 (v3 + (1 : Int32)) (sA x 81 0 (Int32.toNatClampNeg v3) (xA x 54 0 (Int32.toNatClampNeg (((12 : Int32) * v1) + v3))))) else none) else none)
theorem tb_X9_book_89 {n : Nat} {d : Nat} {z : am_X} (hd : 3 ≤ d) : ∀ (k : Nat) (i0 : Nat) (v1 : Int32) (v2 : Int32) (v3 : Int32) (x : am_X), am_To d (am_tab pX9_book) 89 ([(0, am_R 32 i0), (1, am_I v1), (2, am_I v2), (3, am_I v3)], ([], (z, x))) (cvI1 z) (b_X9_book_89 n k i0 v1 v2 v3 x) := by
  intro k
  induction k with
  | zero =>
    intro i0 v1 v2 v3 x
    exact to_0
  | succ k ih =>
    intro i0 v1 v2 v3 x
    rw [b_X9_book_89]
    refine to_if 3 (c := (12 : Int32) ≤ v3) (p1 := 118) (p2 := 95) (a' := ([(0, am_R 32 i0), (1, am_I v1), (2, am_I v2), (3, am_I v3)], ([], (z, x)))) rfl (fun c_1 => ?_) (fun c_1 => ?_)
    · exact to_rt 2 (r := (v2, x)) rfl
    · refine to_go 4 (pc' := 101) (a' := ([(0, am_R 32 i0), (1, am_I v1), (2, am_I v2), (3, am_I v3)], ([am_R 32 i0, am_I v3, am_R 81 0], (z, x)))) rfl ?_
      refine to_go 4 (pc' := 108) (a' := ([(0, am_R 32 i0), (1, am_I v1), (2, am_I v2), (3, am_I v3)], ([am_I ((12 : Int32) * v1), am_R 54 0, am_I v3, am_R 81 0], (z, x)))) rfl ?_
      refine to_gd 2 110 (c := am_inB (((12 : Int32) * v1) + v3) 60 = true) (pc' := 111) (a' := ([(0, am_R 32 i0), (1, am_I v1), (2, am_I v2), (3, am_I v3)], ([am_I (xA x 54 0 (Int32.toNatClampNeg (((12 : Int32) * v1) + v3))), am_I v3, am_R 81 0], (z, x)))) rfl rfl (fun c_2 => ?_)
      refine to_gd 0 111 (c := am_inB v3 12 = true) (pc' := 112) (a' := ([(0, am_R 32 i0), (1, am_I v1), (2, am_I v2), (3, am_I v3)], ([], (z, (sA x 81 0 (Int32.toNatClampNeg v3) (xA x 54 0 (Int32.toNatClampNeg (((12 : Int32) * v1) + v3)))))))) rfl rfl (fun c_3 => ?_)
      refine to_go 2 (pc' := 89) (a' := ([(3, am_I (v3 + (1 : Int32))), (0, am_R 32 i0), (1, am_I v1), (2, am_I v2)], ([], (z, (sA x 81 0 (Int32.toNatClampNeg v3) (xA x 54 0 (Int32.toNatClampNeg (((12 : Int32) * v1) + v3)))))))) rfl ?_
      refine to_fg [1, 2, 3, 0] (lv' := [(0, am_R 32 i0), (1, am_I v1), (2, am_I v2), (3, am_I (v3 + (1 : Int32)))]) rfl ?_
      exact ih i0 v1 v2 (v3 + (1 : Int32)) (sA x 81 0 (Int32.toNatClampNeg v3) (xA x 54 0 (Int32.toNatClampNeg (((12 : Int32) * v1) + v3))))
def f_X9_book (n : Nat) (i0 : Nat) (v1 : Int32) (x : am_X) : Option (Int32 × am_X) := (f_X9_isPerson n i0 v1 x).bind fun q1 => if ¬ q1.1 = 0 then (if am_inB v1 5 = true then (if ¬ (xA q1.2 51 0 (Int32.toNatClampNeg v1)) = (1 : Int32) then (if am_inB v1 5 = true then (if am_inB v1 5 = true then (if am_inB v1 5 = true then (if am_inB v1 5 = true then (b_X9_book_89 n n i0 v1 (xF q1.2 32 33 i0) (0 : Int32) (sF (sF (sF (sF (sF (sF (sF q1.2 32 32 i0 v1) 32 33 i0 (0 : Int32)) 32 36 i0 (xF q1.2 32 6 i0)) 32 37 i0 (xA q1.2 48 0 (Int32.toNatClampNeg v1))) 32 38 i0 (xA q1.2 49 0 (Int32.toNatClampNeg v1))) 32 39 i0 (xA q1.2 50 0 (Int32.toNatClampNeg v1))) 32 40 i0 (xA q1.2 53 0 (Int32.toNatClampNeg v1)))) else none) else none) else none) else none) else (some ((-103 : Int32), q1.2))) else none) else (some ((-101 : Int32), q1.2))
theorem t_X9_book {n : Nat} {d : Nat} {i0 : Nat} {v1 : Int32} {x z : am_X} {q : Int32 × am_X} (hd : 4 ≤ d) (h : f_X9_book n i0 v1 x = some q) : am_Ev am_PR d 161 [am_R 32 i0, am_I v1] (z, x) (cvI1 z q) := by
  obtain ⟨d, rfl⟩ : ∃ e, d = e + 1 := ⟨d - 1, by omega⟩
  refine to_ev (P := (am_tab pX9_book)) rfl (lv := [(0, am_R 32 i0), (1, am_I v1)]) rfl ?_ q h
  unfold f_X9_book
  refine to_cl 3 (lv := [(0, am_R 32 i0), (1, am_I v1)]) (st := []) (M := (z, x)) (cb := (cvI1 z)) rfl (fun q hq => t_X9_isPerson (by omega) hq) (fun q1 => ?_)
  refine to_if 1 (c := ¬ q1.1 = 0) (p1 := 11) (p2 := 8) (a' := ([(0, am_R 32 i0), (1, am_I v1)], ([], (z, q1.2)))) rfl (fun c_2 => ?_) (fun c_2 => ?_)
  · refine to_gd 3 16 (c := am_inB v1 5 = true) (pc' := 17) (a' := ([(0, am_R 32 i0), (1, am_I v1)], ([am_I (xA q1.2 51 0 (Int32.toNatClampNeg v1))], (z, q1.2)))) rfl rfl (fun c_3 => ?_)
    refine to_if 2 (c := ¬ (xA q1.2 51 0 (Int32.toNatClampNeg v1)) = (1 : Int32)) (p1 := 24) (p2 := 21) (a' := ([(0, am_R 32 i0), (1, am_I v1)], ([], (z, q1.2)))) rfl (fun c_4 => ?_) (fun c_4 => ?_)
    · refine to_go 4 (pc' := 30) (a' := ([(2, am_I (xF q1.2 32 33 i0)), (0, am_R 32 i0), (1, am_I v1)], ([am_R 32 i0], (z, q1.2)))) rfl ?_
      refine to_go 4 (pc' := 36) (a' := ([(2, am_I (xF q1.2 32 33 i0)), (0, am_R 32 i0), (1, am_I v1)], ([am_I (0 : Int32), am_R 32 i0], (z, (sF q1.2 32 32 i0 v1))))) rfl ?_
      refine to_go 4 (pc' := 44) (a' := ([(2, am_I (xF q1.2 32 33 i0)), (0, am_R 32 i0), (1, am_I v1)], ([am_I (xF q1.2 32 6 i0), am_R 32 i0], (z, (sF (sF q1.2 32 32 i0 v1) 32 33 i0 (0 : Int32)))))) rfl ?_
      refine to_go 4 (pc' := 52) (a' := ([(2, am_I (xF q1.2 32 33 i0)), (0, am_R 32 i0), (1, am_I v1)], ([am_R 48 0, am_R 32 i0], (z, (sF (sF (sF q1.2 32 32 i0 v1) 32 33 i0 (0 : Int32)) 32 36 i0 (xF q1.2 32 6 i0)))))) rfl ?_
      refine to_gd 1 53 (c := am_inB v1 5 = true) (pc' := 54) (a' := ([(2, am_I (xF q1.2 32 33 i0)), (0, am_R 32 i0), (1, am_I v1)], ([am_I (xA q1.2 48 0 (Int32.toNatClampNeg v1)), am_R 32 i0], (z, (sF (sF (sF q1.2 32 32 i0 v1) 32 33 i0 (0 : Int32)) 32 36 i0 (xF q1.2 32 6 i0)))))) rfl rfl (fun c_5 => ?_)
      refine to_go 4 (pc' := 62) (a' := ([(2, am_I (xF q1.2 32 33 i0)), (0, am_R 32 i0), (1, am_I v1)], ([am_R 49 0, am_R 32 i0], (z, (sF (sF (sF (sF q1.2 32 32 i0 v1) 32 33 i0 (0 : Int32)) 32 36 i0 (xF q1.2 32 6 i0)) 32 37 i0 (xA q1.2 48 0 (Int32.toNatClampNeg v1))))))) rfl ?_
      refine to_gd 1 63 (c := am_inB v1 5 = true) (pc' := 64) (a' := ([(2, am_I (xF q1.2 32 33 i0)), (0, am_R 32 i0), (1, am_I v1)], ([am_I (xA q1.2 49 0 (Int32.toNatClampNeg v1)), am_R 32 i0], (z, (sF (sF (sF (sF q1.2 32 32 i0 v1) 32 33 i0 (0 : Int32)) 32 36 i0 (xF q1.2 32 6 i0)) 32 37 i0 (xA q1.2 48 0 (Int32.toNatClampNeg v1))))))) rfl rfl (fun c_6 => ?_)
      refine to_go 4 (pc' := 72) (a' := ([(2, am_I (xF q1.2 32 33 i0)), (0, am_R 32 i0), (1, am_I v1)], ([am_R 50 0, am_R 32 i0], (z, (sF (sF (sF (sF (sF q1.2 32 32 i0 v1) 32 33 i0 (0 : Int32)) 32 36 i0 (xF q1.2 32 6 i0)) 32 37 i0 (xA q1.2 48 0 (Int32.toNatClampNeg v1))) 32 38 i0 (xA q1.2 49 0 (Int32.toNatClampNeg v1))))))) rfl ?_
      refine to_gd 1 73 (c := am_inB v1 5 = true) (pc' := 74) (a' := ([(2, am_I (xF q1.2 32 33 i0)), (0, am_R 32 i0), (1, am_I v1)], ([am_I (xA q1.2 50 0 (Int32.toNatClampNeg v1)), am_R 32 i0], (z, (sF (sF (sF (sF (sF q1.2 32 32 i0 v1) 32 33 i0 (0 : Int32)) 32 36 i0 (xF q1.2 32 6 i0)) 32 37 i0 (xA q1.2 48 0 (Int32.toNatClampNeg v1))) 32 38 i0 (xA q1.2 49 0 (Int32.toNatClampNeg v1))))))) rfl rfl (fun c_7 => ?_)
      refine to_go 4 (pc' := 82) (a' := ([(2, am_I (xF q1.2 32 33 i0)), (0, am_R 32 i0), (1, am_I v1)], ([am_R 53 0, am_R 32 i0], (z, (sF (sF (sF (sF (sF (sF q1.2 32 32 i0 v1) 32 33 i0 (0 : Int32)) 32 36 i0 (xF q1.2 32 6 i0)) 32 37 i0 (xA q1.2 48 0 (Int32.toNatClampNeg v1))) 32 38 i0 (xA q1.2 49 0 (Int32.toNatClampNeg v1))) 32 39 i0 (xA q1.2 50 0 (Int32.toNatClampNeg v1))))))) rfl ?_
      refine to_gd 1 83 (c := am_inB v1 5 = true) (pc' := 84) (a' := ([(2, am_I (xF q1.2 32 33 i0)), (0, am_R 32 i0), (1, am_I v1)], ([am_I (xA q1.2 53 0 (Int32.toNatClampNeg v1)), am_R 32 i0], (z, (sF (sF (sF (sF (sF (sF q1.2 32 32 i0 v1) 32 33 i0 (0 : Int32)) 32 36 i0 (xF q1.2 32 6 i0)) 32 37 i0 (xA q1.2 48 0 (Int32.toNatClampNeg v1))) 32 38 i0 (xA q1.2 49 0 (Int32.toNatClampNeg v1))) 32 39 i0 (xA q1.2 50 0 (Int32.toNatClampNeg v1))))))) rfl rfl (fun c_8 => ?_)
      refine to_go 3 (pc' := 89) (a' := ([(3, am_I (0 : Int32)), (2, am_I (xF q1.2 32 33 i0)), (0, am_R 32 i0), (1, am_I v1)], ([], (z, (sF (sF (sF (sF (sF (sF (sF q1.2 32 32 i0 v1) 32 33 i0 (0 : Int32)) 32 36 i0 (xF q1.2 32 6 i0)) 32 37 i0 (xA q1.2 48 0 (Int32.toNatClampNeg v1))) 32 38 i0 (xA q1.2 49 0 (Int32.toNatClampNeg v1))) 32 39 i0 (xA q1.2 50 0 (Int32.toNatClampNeg v1))) 32 40 i0 (xA q1.2 53 0 (Int32.toNatClampNeg v1))))))) rfl ?_
      refine to_fg [2, 3, 1, 0] (lv' := [(0, am_R 32 i0), (1, am_I v1), (2, am_I (xF q1.2 32 33 i0)), (3, am_I (0 : Int32))]) rfl ?_
      exact tb_X9_book_89 (by omega)  n i0 v1 (xF q1.2 32 33 i0) (0 : Int32) (sF (sF (sF (sF (sF (sF (sF q1.2 32 32 i0 v1) 32 33 i0 (0 : Int32)) 32 36 i0 (xF q1.2 32 6 i0)) 32 37 i0 (xA q1.2 48 0 (Int32.toNatClampNeg v1))) 32 38 i0 (xA q1.2 49 0 (Int32.toNatClampNeg v1))) 32 39 i0 (xA q1.2 50 0 (Int32.toNatClampNeg v1))) 32 40 i0 (xA q1.2 53 0 (Int32.toNatClampNeg v1)))
    · exact to_rt 2 (r := ((-103 : Int32), q1.2)) rfl
  · exact to_rt 2 (r := ((-101 : Int32), q1.2)) rfl
def f_X9_next (n : Nat) (i0 : Nat) (v1 : Int32) (x : am_X) : Option (Int32 × am_X) := if ¬ (xF x 32 32 i0) = (-1 : Int32) then ((f_X9_within n v1 (0 : Int32) (999 : Int32) x).bind fun q2 => if ¬ q2.1 = 0 then (if ¬ (xF q2.2 32 33 i0) = (5 : Int32) then (if am_inB (xF q2.2 32 33 i0) 5 = true then (some ((xF (sF (sA q2.2 74 0 (Int32.toNatClampNeg (xF q2.2 32 33 i0)) v1) 32 33 i0 ((xF q2.2 32 33 i0) + (1 : Int32))) 32 33 i0), (sF (sA q2.2 74 0 (Int32.toNatClampNeg (xF q2.2 32 33 i0)) v1) 32 33 i0 ((xF q2.2 32 33 i0) + (1 : Int32))))) else none) else (some ((-104 : Int32), q2.2))) else (some ((-102 : Int32), q2.2))) else (some ((-103 : Int32), x))
theorem t_X9_next {n : Nat} {d : Nat} {i0 : Nat} {v1 : Int32} {x z : am_X} {q : Int32 × am_X} (hd : 2 ≤ d) (h : f_X9_next n i0 v1 x = some q) : am_Ev am_PR d 162 [am_R 32 i0, am_I v1] (z, x) (cvI1 z q) := by
  obtain ⟨d, rfl⟩ : ∃ e, d = e + 1 := ⟨d - 1, by omega⟩
  refine to_ev (P := (am_tab pX9_next)) rfl (lv := [(0, am_R 32 i0), (1, am_I v1)]) rfl ?_ q h
  unfold f_X9_next
  refine to_if 4 (c := ¬ (xF x 32 32 i0) = (-1 : Int32)) (p1 := 11) (p2 := 8) (a' := ([(0, am_R 32 i0), (1, am_I v1)], ([], (z, x)))) rfl (fun c_1 => ?_) (fun c_1 => ?_)
  · refine to_cl 4 (lv := [(0, am_R 32 i0), (1, am_I v1)]) (st := []) (M := (z, x)) (cb := (cvI1 z)) rfl (fun q hq => t_X9_within (by omega) hq) (fun q2 => ?_)
    refine to_if 1 (c := ¬ q2.1 = 0) (p1 := 25) (p2 := 22) (a' := ([(0, am_R 32 i0), (1, am_I v1)], ([], (z, q2.2)))) rfl (fun c_3 => ?_) (fun c_3 => ?_)
    · refine to_if 4 (c := ¬ (xF q2.2 32 33 i0) = (5 : Int32)) (p1 := 36) (p2 := 33) (a' := ([(0, am_R 32 i0), (1, am_I v1)], ([], (z, q2.2)))) rfl (fun c_4 => ?_) (fun c_4 => ?_)
      · refine to_go 4 (pc' := 44) (a' := ([(0, am_R 32 i0), (1, am_I v1)], ([am_I (xF q2.2 32 33 i0), am_R 74 0], (z, q2.2)))) rfl ?_
        refine to_gd 1 45 (c := am_inB (xF q2.2 32 33 i0) 5 = true) (pc' := 46) (a' := ([(0, am_R 32 i0), (1, am_I v1)], ([], (z, (sA q2.2 74 0 (Int32.toNatClampNeg (xF q2.2 32 33 i0)) v1))))) rfl rfl (fun c_5 => ?_)
        refine to_go 4 (pc' := 52) (a' := ([(0, am_R 32 i0), (1, am_I v1)], ([am_I (1 : Int32), am_I (xF q2.2 32 33 i0), am_R 32 i0], (z, (sA q2.2 74 0 (Int32.toNatClampNeg (xF q2.2 32 33 i0)) v1))))) rfl ?_
        refine to_go 4 (pc' := 60) (a' := ([(0, am_R 32 i0), (1, am_I v1)], ([am_I (xF (sF (sA q2.2 74 0 (Int32.toNatClampNeg (xF q2.2 32 33 i0)) v1) 32 33 i0 ((xF q2.2 32 33 i0) + (1 : Int32))) 32 33 i0)], (z, (sF (sA q2.2 74 0 (Int32.toNatClampNeg (xF q2.2 32 33 i0)) v1) 32 33 i0 ((xF q2.2 32 33 i0) + (1 : Int32))))))) rfl ?_
        exact to_rt 1 (r := ((xF (sF (sA q2.2 74 0 (Int32.toNatClampNeg (xF q2.2 32 33 i0)) v1) 32 33 i0 ((xF q2.2 32 33 i0) + (1 : Int32))) 32 33 i0), (sF (sA q2.2 74 0 (Int32.toNatClampNeg (xF q2.2 32 33 i0)) v1) 32 33 i0 ((xF q2.2 32 33 i0) + (1 : Int32))))) rfl
      · exact to_rt 2 (r := ((-104 : Int32), q2.2)) rfl
    · exact to_rt 2 (r := ((-102 : Int32), q2.2)) rfl
  · exact to_rt 2 (r := ((-103 : Int32), x)) rfl
def b_X9_tryRow_33 (n : Nat) (v1 : Int32) (v2 : Int32) (x : am_X) : Option (Int32 × am_X) := if v2 = 0 then (some ((v1 - (1 : Int32)), x)) else (some ((v1 + (1 : Int32)), x))
theorem tb_X9_tryRow_33 {n : Nat} {d : Nat} {z : am_X} (hd : 5 ≤ d) (v1 : Int32) (v2 : Int32) (x : am_X) : am_To d (am_tab pX9_tryRow) 33 ([(1, am_I v1), (2, am_I v2)], ([], (z, x))) (cvI1 z) (b_X9_tryRow_33 n v1 v2 x) := by
  unfold b_X9_tryRow_33
  refine to_if 2 (c := v2 = 0) (p1 := 43) (p2 := 37) (a' := ([(1, am_I v1), (2, am_I v2)], ([], (z, x)))) rfl (fun c_1 => ?_) (fun c_1 => ?_)
  · exact to_rt 4 (r := ((v1 - (1 : Int32)), x)) rfl
  · refine to_go 4 (pc' := 46) (a' := ([(1, am_I v1), (2, am_I v2)], ([am_I (v1 + (1 : Int32))], (z, x)))) rfl ?_
    exact to_rt 1 (r := ((v1 + (1 : Int32)), x)) rfl
def b_X9_tryRow_2 (n : Nat) : Nat → Nat → Int32 → Int32 → am_X → Option (Int32 × am_X)
  | 0, _, _, _, _ => none
  | k + 1, i0, v1, v2, x => if am_inB v1 8 = true then (if (12 : Int32) ≤ (xA x 69 0 (Int32.toNatClampNeg v1)) then (b_X9_tryRow_33 n v1 v2 x) else (if ¬ v2 = 0 then (b_X9_tryRow_33 n v1 v2 x) else ((f_X9_goRow n i0 v1 ((xF x 32 36 i0) + v1) (1 : Int32) x).bind fun q4 => b_X9_tryRow_2 n k i0 v1 q4.1 q4.2))) else none
theorem tb_X9_tryRow_2 {n : Nat} {d : Nat} {z : am_X} (hd : 5 ≤ d) : ∀ (k : Nat) (i0 : Nat) (v1 : Int32) (v2 : Int32) (x : am_X), am_To d (am_tab pX9_tryRow) 2 ([(0, am_R 32 i0), (1, am_I v1), (2, am_I v2)], ([], (z, x))) (cvI1 z) (b_X9_tryRow_2 n k i0 v1 v2 x) := by
  intro k
  induction k with
  | zero =>
    intro i0 v1 v2 x
    exact to_0
  | succ k ih =>
    intro i0 v1 v2 x
    rw [b_X9_tryRow_2]
    refine to_gd 3 7 (c := am_inB v1 8 = true) (pc' := 8) (a' := ([(0, am_R 32 i0), (1, am_I v1), (2, am_I v2)], ([am_I (xA x 69 0 (Int32.toNatClampNeg v1))], (z, x)))) rfl rfl (fun c_1 => ?_)
    refine to_if 2 (c := (12 : Int32) ≤ (xA x 69 0 (Int32.toNatClampNeg v1))) (p1 := 33) (p2 := 13) (a' := ([(0, am_R 32 i0), (1, am_I v1), (2, am_I v2)], ([], (z, x)))) rfl (fun c_2 => ?_) (fun c_2 => ?_)
    · refine to_fg [1, 2] (lv' := [(1, am_I v1), (2, am_I v2)]) rfl ?_
      exact tb_X9_tryRow_33 (by omega)  v1 v2 x
    · refine to_if 2 (c := ¬ v2 = 0) (p1 := 33) (p2 := 17) (a' := ([(0, am_R 32 i0), (1, am_I v1), (2, am_I v2)], ([], (z, x)))) rfl (fun c_3 => ?_) (fun c_3 => ?_)
      · refine to_fg [1, 2] (lv' := [(1, am_I v1), (2, am_I v2)]) rfl ?_
        exact tb_X9_tryRow_33 (by omega)  v1 v2 x
      · refine to_go 4 (pc' := 23) (a' := ([(0, am_R 32 i0), (1, am_I v1), (2, am_I v2)], ([am_I (xF x 32 36 i0), am_I v1, am_R 32 i0], (z, x)))) rfl ?_
        refine to_cl 4 (lv := [(0, am_R 32 i0), (1, am_I v1), (2, am_I v2)]) (st := []) (M := (z, x)) (cb := (cvI1 z)) rfl (fun q hq => t_X9_goRow (by omega) hq) (fun q4 => ?_)
        refine to_go 2 (pc' := 2) (a' := ([(2, am_I q4.1), (0, am_R 32 i0), (1, am_I v1)], ([], (z, q4.2)))) rfl ?_
        refine to_fg [1, 2, 0] (lv' := [(0, am_R 32 i0), (1, am_I v1), (2, am_I q4.1)]) rfl ?_
        exact ih i0 v1 q4.1 q4.2
def f_X9_tryRow (n : Nat) (i0 : Nat) (v1 : Int32) (x : am_X) : Option (Int32 × am_X) := b_X9_tryRow_2 n n i0 v1 (0 : Int32) x
theorem t_X9_tryRow {n : Nat} {d : Nat} {i0 : Nat} {v1 : Int32} {x z : am_X} {q : Int32 × am_X} (hd : 6 ≤ d) (h : f_X9_tryRow n i0 v1 x = some q) : am_Ev am_PR d 164 [am_R 32 i0, am_I v1] (z, x) (cvI1 z q) := by
  obtain ⟨d, rfl⟩ : ∃ e, d = e + 1 := ⟨d - 1, by omega⟩
  refine to_ev (P := (am_tab pX9_tryRow)) rfl (lv := [(0, am_R 32 i0), (1, am_I v1)]) rfl ?_ q h
  unfold f_X9_tryRow
  refine to_go 2 (pc' := 2) (a' := ([(2, am_I (0 : Int32)), (0, am_R 32 i0), (1, am_I v1)], ([], (z, x)))) rfl ?_
  refine to_fg [1, 2, 0] (lv' := [(0, am_R 32 i0), (1, am_I v1), (2, am_I (0 : Int32))]) rfl ?_
  exact tb_X9_tryRow_2 (by omega)  n i0 v1 (0 : Int32) x
def b_X9_layWays_177 (n : Nat) (h86 : Nat → Int32 → am_X → Option (am_X)) (i0 : Nat) (v1 : Int32) (x : am_X) : Option (am_X) := if v1 < 0 then (h86 i0 v1 x) else ((f_X9_backRow n i0 v1 x).bind fun q2 => h86 i0 v1 q2)
theorem tb_X9_layWays_177 {n : Nat} {h86 : Nat → Int32 → am_X → Option (am_X)} {d : Nat} {z : am_X} (hd : 6 ≤ d) (hh86 : ∀ (i0 : Nat) (v1 : Int32) (x : am_X), am_To d (am_tab pX9_layWays) 86 ([(0, am_R 32 i0), (1, am_I v1)], ([], (z, x))) (cvV1 z) (h86 i0 v1 x)) (i0 : Nat) (v1 : Int32) (x : am_X) : am_To d (am_tab pX9_layWays) 177 ([(0, am_R 32 i0), (1, am_I v1)], ([], (z, x))) (cvV1 z) (b_X9_layWays_177 n h86 i0 v1 x) := by
  unfold b_X9_layWays_177
  refine to_if 2 (c := v1 < 0) (p1 := 86) (p2 := 181) (a' := ([(0, am_R 32 i0), (1, am_I v1)], ([], (z, x)))) rfl (fun c_1 => ?_) (fun c_1 => ?_)
  · refine to_fg [0, 1] (lv' := [(0, am_R 32 i0), (1, am_I v1)]) rfl ?_
    exact hh86 i0 v1 x
  · refine to_cl 3 (lv := [(0, am_R 32 i0), (1, am_I v1)]) (st := []) (M := (z, x)) (cb := (cvV1 z)) rfl (fun q hq => t_X9_backRow (by omega) hq) (fun q2 => ?_)
    refine to_go 1 (pc' := 86) (a' := ([(0, am_R 32 i0), (1, am_I v1)], ([], (z, q2)))) rfl ?_
    refine to_fg [0, 1] (lv' := [(0, am_R 32 i0), (1, am_I v1)]) rfl ?_
    exact hh86 i0 v1 q2
def b_X9_layWays_162 (n : Nat) (h86 : Nat → Int32 → am_X → Option (am_X)) (i0 : Nat) (v1 : Int32) (s0 : Nat) (s1 : Int32) (x : am_X) : Option (am_X) := b_X9_layWays_177 n h86 i0 (v1 + (-1 : Int32)) (sF x 32 43 s0 s1)
theorem tb_X9_layWays_162 {n : Nat} {h86 : Nat → Int32 → am_X → Option (am_X)} {d : Nat} {z : am_X} (hd : 6 ≤ d) (hh86 : ∀ (i0 : Nat) (v1 : Int32) (x : am_X), am_To d (am_tab pX9_layWays) 86 ([(0, am_R 32 i0), (1, am_I v1)], ([], (z, x))) (cvV1 z) (h86 i0 v1 x)) (i0 : Nat) (v1 : Int32) (s0 : Nat) (s1 : Int32) (x : am_X) : am_To d (am_tab pX9_layWays) 162 ([(0, am_R 32 i0), (1, am_I v1)], ([am_I s1, am_R 32 s0], (z, x))) (cvV1 z) (b_X9_layWays_162 n h86 i0 v1 s0 s1 x) := by
  unfold b_X9_layWays_162
  refine to_go 3 (pc' := 177) (a' := ([(1, am_I (v1 + (-1 : Int32))), (0, am_R 32 i0)], ([], (z, (sF x 32 43 s0 s1))))) rfl ?_
  refine to_fg [1, 0] (lv' := [(0, am_R 32 i0), (1, am_I (v1 + (-1 : Int32)))]) rfl ?_
  exact tb_X9_layWays_177 (by omega) hh86  i0 (v1 + (-1 : Int32)) (sF x 32 43 s0 s1)
def b_X9_layWays_117 (n : Nat) (h86 : Nat → Int32 → am_X → Option (am_X)) (i0 : Nat) (v1 : Int32) (x : am_X) : Option (am_X) := if ¬ v1 = (xF x 32 33 i0) then ((f_X9_tryRow n i0 v1 x).bind fun q2 => b_X9_layWays_177 n h86 i0 q2.1 q2.2) else (if (xA x 50 0 (Int32.toNatClampNeg (4 : Int32))) ≤ (xF x 32 43 i0) then (b_X9_layWays_162 n h86 i0 v1 i0 (xF x 32 43 i0) (sF x 32 42 i0 ((xF x 32 42 i0) + (1 : Int32)))) else (b_X9_layWays_162 n h86 i0 v1 i0 (xA x 50 0 (Int32.toNatClampNeg (4 : Int32))) (sF x 32 42 i0 ((xF x 32 42 i0) + (1 : Int32)))))
theorem tb_X9_layWays_117 {n : Nat} {h86 : Nat → Int32 → am_X → Option (am_X)} {d : Nat} {z : am_X} (hd : 6 ≤ d) (hh86 : ∀ (i0 : Nat) (v1 : Int32) (x : am_X), am_To d (am_tab pX9_layWays) 86 ([(0, am_R 32 i0), (1, am_I v1)], ([], (z, x))) (cvV1 z) (h86 i0 v1 x)) (i0 : Nat) (v1 : Int32) (x : am_X) : am_To d (am_tab pX9_layWays) 117 ([(0, am_R 32 i0), (1, am_I v1)], ([], (z, x))) (cvV1 z) (b_X9_layWays_117 n h86 i0 v1 x) := by
  unfold b_X9_layWays_117
  refine to_if 4 (c := ¬ v1 = (xF x 32 33 i0)) (p1 := 171) (p2 := 125) (a' := ([(0, am_R 32 i0), (1, am_I v1)], ([], (z, x)))) rfl (fun c_1 => ?_) (fun c_1 => ?_)
  · refine to_cl 3 (lv := [(0, am_R 32 i0), (1, am_I v1)]) (st := []) (M := (z, x)) (cb := (cvI1 z)) rfl (fun q hq => t_X9_tryRow (by omega) hq) (fun q2 => ?_)
    refine to_go 1 (pc' := 177) (a' := ([(1, am_I q2.1), (0, am_R 32 i0)], ([], (z, q2.2)))) rfl ?_
    refine to_fg [1, 0] (lv' := [(0, am_R 32 i0), (1, am_I q2.1)]) rfl ?_
    exact tb_X9_layWays_177 (by omega) hh86  i0 q2.1 q2.2
  · refine to_go 4 (pc' := 131) (a' := ([(0, am_R 32 i0), (1, am_I v1)], ([am_I (1 : Int32), am_I (xF x 32 42 i0), am_R 32 i0], (z, x)))) rfl ?_
    refine to_go 4 (pc' := 137) (a' := ([(0, am_R 32 i0), (1, am_I v1)], ([am_R 32 i0, am_R 32 i0], (z, (sF x 32 42 i0 ((xF x 32 42 i0) + (1 : Int32))))))) rfl ?_
    refine to_gk 2 141 (c := am_inB (4 : Int32) 5 = true) (pc' := 142) (a' := ([(0, am_R 32 i0), (1, am_I v1)], ([am_I (xA x 50 0 (Int32.toNatClampNeg (4 : Int32))), am_R 32 i0], (z, (sF x 32 42 i0 ((xF x 32 42 i0) + (1 : Int32))))))) rfl rfl (by decide) ?_
    refine to_if 3 (c := (xA x 50 0 (Int32.toNatClampNeg (4 : Int32))) ≤ (xF x 32 43 i0)) (p1 := 158) (p2 := 149) (a' := ([(0, am_R 32 i0), (1, am_I v1)], ([am_R 32 i0], (z, (sF x 32 42 i0 ((xF x 32 42 i0) + (1 : Int32))))))) rfl (fun c_3 => ?_) (fun c_3 => ?_)
    · refine to_go 2 (pc' := 162) (a' := ([(0, am_R 32 i0), (1, am_I v1)], ([am_I (xF x 32 43 i0), am_R 32 i0], (z, (sF x 32 42 i0 ((xF x 32 42 i0) + (1 : Int32))))))) rfl ?_
      refine to_fg [0, 1] (lv' := [(0, am_R 32 i0), (1, am_I v1)]) rfl ?_
      exact tb_X9_layWays_162 (by omega) hh86  i0 v1 i0 (xF x 32 43 i0) (sF x 32 42 i0 ((xF x 32 42 i0) + (1 : Int32)))
    · refine to_gk 3 154 (c := am_inB (4 : Int32) 5 = true) (pc' := 155) (a' := ([(0, am_R 32 i0), (1, am_I v1)], ([am_I (xA x 50 0 (Int32.toNatClampNeg (4 : Int32))), am_R 32 i0], (z, (sF x 32 42 i0 ((xF x 32 42 i0) + (1 : Int32))))))) rfl rfl (by decide) ?_
      refine to_go 1 (pc' := 162) (a' := ([(0, am_R 32 i0), (1, am_I v1)], ([am_I (xA x 50 0 (Int32.toNatClampNeg (4 : Int32))), am_R 32 i0], (z, (sF x 32 42 i0 ((xF x 32 42 i0) + (1 : Int32))))))) rfl ?_
      refine to_fg [0, 1] (lv' := [(0, am_R 32 i0), (1, am_I v1)]) rfl ?_
      exact tb_X9_layWays_162 (by omega) hh86  i0 v1 i0 (xA x 50 0 (Int32.toNatClampNeg (4 : Int32))) (sF x 32 42 i0 ((xF x 32 42 i0) + (1 : Int32)))
def b_X9_layWays_86 (n : Nat) : Nat → Nat → Int32 → am_X → Option (am_X)
  | 0, _, _, _ => none
  | k + 1, i0, v1, x => if v1 < 0 then (some x) else (if v1 ≤ 0 then (b_X9_layWays_117 n (b_X9_layWays_86 n k) i0 v1 x) else (if am_inB (v1 - (1 : Int32)) 5 = true then (if (xA x 49 0 (Int32.toNatClampNeg (4 : Int32))) = (xA x 74 0 (Int32.toNatClampNeg (v1 - (1 : Int32)))) then (b_X9_layWays_117 n (b_X9_layWays_86 n k) i0 v1 x) else (b_X9_layWays_177 n (b_X9_layWays_86 n k) i0 (v1 + (-1 : Int32)) x)) else none))
theorem tb_X9_layWays_86 {n : Nat} {d : Nat} {z : am_X} (hd : 6 ≤ d) : ∀ (k : Nat) (i0 : Nat) (v1 : Int32) (x : am_X), am_To d (am_tab pX9_layWays) 86 ([(0, am_R 32 i0), (1, am_I v1)], ([], (z, x))) (cvV1 z) (b_X9_layWays_86 n k i0 v1 x) := by
  intro k
  induction k with
  | zero =>
    intro i0 v1 x
    exact to_0
  | succ k ih =>
    intro i0 v1 x
    rw [b_X9_layWays_86]
    refine to_if 2 (c := v1 < 0) (p1 := 189) (p2 := 90) (a' := ([(0, am_R 32 i0), (1, am_I v1)], ([], (z, x)))) rfl (fun c_1 => ?_) (fun c_1 => ?_)
    · exact to_rt 1 rfl
    · refine to_if 2 (c := v1 ≤ 0) (p1 := 117) (p2 := 94) (a' := ([(0, am_R 32 i0), (1, am_I v1)], ([], (z, x)))) rfl (fun c_2 => ?_) (fun c_2 => ?_)
      · refine to_fg [0, 1] (lv' := [(0, am_R 32 i0), (1, am_I v1)]) rfl ?_
        exact tb_X9_layWays_117 (by omega) ih  i0 v1 x
      · refine to_gk 3 99 (c := am_inB (4 : Int32) 5 = true) (pc' := 100) (a' := ([(0, am_R 32 i0), (1, am_I v1)], ([am_I (xA x 49 0 (Int32.toNatClampNeg (4 : Int32)))], (z, x)))) rfl rfl (by decide) ?_
        refine to_go 4 (pc' := 106) (a' := ([(0, am_R 32 i0), (1, am_I v1)], ([am_I (1 : Int32), am_I v1, am_R 74 0, am_I (xA x 49 0 (Int32.toNatClampNeg (4 : Int32)))], (z, x)))) rfl ?_
        refine to_gd 1 107 (c := am_inB (v1 - (1 : Int32)) 5 = true) (pc' := 108) (a' := ([(0, am_R 32 i0), (1, am_I v1)], ([am_I (xA x 74 0 (Int32.toNatClampNeg (v1 - (1 : Int32)))), am_I (xA x 49 0 (Int32.toNatClampNeg (4 : Int32)))], (z, x)))) rfl rfl (fun c_3 => ?_)
        refine to_if 1 (c := (xA x 49 0 (Int32.toNatClampNeg (4 : Int32))) = (xA x 74 0 (Int32.toNatClampNeg (v1 - (1 : Int32))))) (p1 := 117) (p2 := 111) (a' := ([(0, am_R 32 i0), (1, am_I v1)], ([], (z, x)))) rfl (fun c_4 => ?_) (fun c_4 => ?_)
        · refine to_fg [0, 1] (lv' := [(0, am_R 32 i0), (1, am_I v1)]) rfl ?_
          exact tb_X9_layWays_117 (by omega) ih  i0 v1 x
        · refine to_go 2 (pc' := 177) (a' := ([(1, am_I (v1 + (-1 : Int32))), (0, am_R 32 i0)], ([], (z, x)))) rfl ?_
          refine to_fg [1, 0] (lv' := [(0, am_R 32 i0), (1, am_I (v1 + (-1 : Int32)))]) rfl ?_
          exact tb_X9_layWays_177 (by omega) ih  i0 (v1 + (-1 : Int32)) x
def b_X9_layWays_42 (n : Nat) : Nat → Nat → Int32 → am_X → Option (am_X)
  | 0, _, _, _ => none
  | k + 1, i0, v1, x => if (12 : Int32) ≤ v1 then ((f_X9_keepRow n i0 (0 : Int32) (sF (sF x 32 42 i0 (0 : Int32)) 32 43 i0 (-1 : Int32))).bind fun q2 => b_X9_layWays_86 n n i0 (0 : Int32) q2) else (if am_inB v1 12 = true then (if am_inB ((48 : Int32) + v1) 60 = true then (b_X9_layWays_42 n k i0 (v1 + (1 : Int32)) (sA x 54 0 (Int32.toNatClampNeg ((48 : Int32) + v1)) (xA x 81 0 (Int32.toNatClampNeg v1)))) else none) else none)
theorem tb_X9_layWays_42 {n : Nat} {d : Nat} {z : am_X} (hd : 6 ≤ d) : ∀ (k : Nat) (i0 : Nat) (v1 : Int32) (x : am_X), am_To d (am_tab pX9_layWays) 42 ([(0, am_R 32 i0), (1, am_I v1)], ([], (z, x))) (cvV1 z) (b_X9_layWays_42 n k i0 v1 x) := by
  intro k
  induction k with
  | zero =>
    intro i0 v1 x
    exact to_0
  | succ k ih =>
    intro i0 v1 x
    rw [b_X9_layWays_42]
    refine to_if 3 (c := (12 : Int32) ≤ v1) (p1 := 69) (p2 := 48) (a' := ([(0, am_R 32 i0), (1, am_I v1)], ([], (z, x)))) rfl (fun c_1 => ?_) (fun c_1 => ?_)
    · refine to_go 4 (pc' := 75) (a' := ([(0, am_R 32 i0), (1, am_I v1)], ([am_R 32 i0], (z, (sF x 32 42 i0 (0 : Int32)))))) rfl ?_
      refine to_go 4 (pc' := 81) (a' := ([(0, am_R 32 i0), (1, am_I v1)], ([am_I (0 : Int32), am_R 32 i0], (z, (sF (sF x 32 42 i0 (0 : Int32)) 32 43 i0 (-1 : Int32)))))) rfl ?_
      refine to_cl 1 (lv := [(0, am_R 32 i0), (1, am_I v1)]) (st := []) (M := (z, (sF (sF x 32 42 i0 (0 : Int32)) 32 43 i0 (-1 : Int32)))) (cb := (cvV1 z)) rfl (fun q hq => t_X9_keepRow (by omega) hq) (fun q2 => ?_)
      refine to_go 2 (pc' := 86) (a' := ([(1, am_I (0 : Int32)), (0, am_R 32 i0)], ([], (z, q2)))) rfl ?_
      refine to_fg [1, 0] (lv' := [(0, am_R 32 i0), (1, am_I (0 : Int32))]) rfl ?_
      exact tb_X9_layWays_86 (by omega)  n i0 (0 : Int32) q2
    · refine to_go 4 (pc' := 55) (a' := ([(0, am_R 32 i0), (1, am_I v1)], ([am_I v1, am_I (48 : Int32), am_R 54 0], (z, x)))) rfl ?_
      refine to_go 4 (pc' := 61) (a' := ([(0, am_R 32 i0), (1, am_I v1)], ([am_I v1, am_R 81 0, am_I ((48 : Int32) + v1), am_R 54 0], (z, x)))) rfl ?_
      refine to_gd 0 61 (c := am_inB v1 12 = true) (pc' := 62) (a' := ([(0, am_R 32 i0), (1, am_I v1)], ([am_I (xA x 81 0 (Int32.toNatClampNeg v1)), am_I ((48 : Int32) + v1), am_R 54 0], (z, x)))) rfl rfl (fun c_3 => ?_)
      refine to_gd 0 62 (c := am_inB ((48 : Int32) + v1) 60 = true) (pc' := 63) (a' := ([(0, am_R 32 i0), (1, am_I v1)], ([], (z, (sA x 54 0 (Int32.toNatClampNeg ((48 : Int32) + v1)) (xA x 81 0 (Int32.toNatClampNeg v1))))))) rfl rfl (fun c_4 => ?_)
      refine to_go 2 (pc' := 42) (a' := ([(1, am_I (v1 + (1 : Int32))), (0, am_R 32 i0)], ([], (z, (sA x 54 0 (Int32.toNatClampNeg ((48 : Int32) + v1)) (xA x 81 0 (Int32.toNatClampNeg v1))))))) rfl ?_
      refine to_fg [1, 0] (lv' := [(0, am_R 32 i0), (1, am_I (v1 + (1 : Int32)))]) rfl ?_
      exact ih i0 (v1 + (1 : Int32)) (sA x 54 0 (Int32.toNatClampNeg ((48 : Int32) + v1)) (xA x 81 0 (Int32.toNatClampNeg v1)))
def f_X9_layWays (n : Nat) (i0 : Nat) (x : am_X) : Option (am_X) := b_X9_layWays_42 n n i0 (0 : Int32) (sA (sA (sA (sA x 48 0 (Int32.toNatClampNeg (4 : Int32)) (xF x 32 37 i0)) 49 0 (Int32.toNatClampNeg (4 : Int32)) (xF x 32 38 i0)) 50 0 (Int32.toNatClampNeg (4 : Int32)) (xF x 32 39 i0)) 53 0 (Int32.toNatClampNeg (4 : Int32)) (xF x 32 40 i0))
theorem t_X9_layWays {n : Nat} {d : Nat} {i0 : Nat} {x z : am_X} {q : am_X} (hd : 7 ≤ d) (h : f_X9_layWays n i0 x = some q) : am_Ev am_PR d 163 [am_R 32 i0] (z, x) (cvV1 z q) := by
  obtain ⟨d, rfl⟩ : ∃ e, d = e + 1 := ⟨d - 1, by omega⟩
  refine to_ev (P := (am_tab pX9_layWays)) rfl (lv := [(0, am_R 32 i0)]) rfl ?_ q h
  unfold f_X9_layWays
  refine to_go 4 (pc' := 6) (a' := ([(0, am_R 32 i0)], ([am_R 32 i0, am_I (4 : Int32), am_R 48 0], (z, x)))) rfl ?_
  refine to_gk 1 9 (c := am_inB (4 : Int32) 5 = true) (pc' := 10) (a' := ([(0, am_R 32 i0)], ([], (z, (sA x 48 0 (Int32.toNatClampNeg (4 : Int32)) (xF x 32 37 i0)))))) rfl rfl (by decide) ?_
  refine to_go 4 (pc' := 16) (a' := ([(0, am_R 32 i0)], ([am_R 32 i0, am_I (4 : Int32), am_R 49 0], (z, (sA x 48 0 (Int32.toNatClampNeg (4 : Int32)) (xF x 32 37 i0)))))) rfl ?_
  refine to_gk 1 19 (c := am_inB (4 : Int32) 5 = true) (pc' := 20) (a' := ([(0, am_R 32 i0)], ([], (z, (sA (sA x 48 0 (Int32.toNatClampNeg (4 : Int32)) (xF x 32 37 i0)) 49 0 (Int32.toNatClampNeg (4 : Int32)) (xF x 32 38 i0)))))) rfl rfl (by decide) ?_
  refine to_go 4 (pc' := 26) (a' := ([(0, am_R 32 i0)], ([am_R 32 i0, am_I (4 : Int32), am_R 50 0], (z, (sA (sA x 48 0 (Int32.toNatClampNeg (4 : Int32)) (xF x 32 37 i0)) 49 0 (Int32.toNatClampNeg (4 : Int32)) (xF x 32 38 i0)))))) rfl ?_
  refine to_gk 1 29 (c := am_inB (4 : Int32) 5 = true) (pc' := 30) (a' := ([(0, am_R 32 i0)], ([], (z, (sA (sA (sA x 48 0 (Int32.toNatClampNeg (4 : Int32)) (xF x 32 37 i0)) 49 0 (Int32.toNatClampNeg (4 : Int32)) (xF x 32 38 i0)) 50 0 (Int32.toNatClampNeg (4 : Int32)) (xF x 32 39 i0)))))) rfl rfl (by decide) ?_
  refine to_go 4 (pc' := 36) (a' := ([(0, am_R 32 i0)], ([am_R 32 i0, am_I (4 : Int32), am_R 53 0], (z, (sA (sA (sA x 48 0 (Int32.toNatClampNeg (4 : Int32)) (xF x 32 37 i0)) 49 0 (Int32.toNatClampNeg (4 : Int32)) (xF x 32 38 i0)) 50 0 (Int32.toNatClampNeg (4 : Int32)) (xF x 32 39 i0)))))) rfl ?_
  refine to_gk 1 39 (c := am_inB (4 : Int32) 5 = true) (pc' := 40) (a' := ([(0, am_R 32 i0)], ([], (z, (sA (sA (sA (sA x 48 0 (Int32.toNatClampNeg (4 : Int32)) (xF x 32 37 i0)) 49 0 (Int32.toNatClampNeg (4 : Int32)) (xF x 32 38 i0)) 50 0 (Int32.toNatClampNeg (4 : Int32)) (xF x 32 39 i0)) 53 0 (Int32.toNatClampNeg (4 : Int32)) (xF x 32 40 i0)))))) rfl rfl (by decide) ?_
  refine to_go 2 (pc' := 42) (a' := ([(1, am_I (0 : Int32)), (0, am_R 32 i0)], ([], (z, (sA (sA (sA (sA x 48 0 (Int32.toNatClampNeg (4 : Int32)) (xF x 32 37 i0)) 49 0 (Int32.toNatClampNeg (4 : Int32)) (xF x 32 38 i0)) 50 0 (Int32.toNatClampNeg (4 : Int32)) (xF x 32 39 i0)) 53 0 (Int32.toNatClampNeg (4 : Int32)) (xF x 32 40 i0)))))) rfl ?_
  refine to_fg [1, 0] (lv' := [(0, am_R 32 i0), (1, am_I (0 : Int32))]) rfl ?_
  exact tb_X9_layWays_42 (by omega)  n i0 (0 : Int32) (sA (sA (sA (sA x 48 0 (Int32.toNatClampNeg (4 : Int32)) (xF x 32 37 i0)) 49 0 (Int32.toNatClampNeg (4 : Int32)) (xF x 32 38 i0)) 50 0 (Int32.toNatClampNeg (4 : Int32)) (xF x 32 39 i0)) 53 0 (Int32.toNatClampNeg (4 : Int32)) (xF x 32 40 i0))
def f_X9_mayBook (n : Nat) (i0 : Nat) (x : am_X) : Option (Int32 × am_X) := if (xF x 32 32 i0) = (-1 : Int32) then (some ((0 : Int32), x)) else (if (40 : Int32) ≤ (xF x 32 35 i0) then (some ((0 : Int32), x)) else (some ((1 : Int32), x)))
theorem t_X9_mayBook {n : Nat} {d : Nat} {i0 : Nat} {x z : am_X} {q : Int32 × am_X} (hd : 1 ≤ d) (h : f_X9_mayBook n i0 x = some q) : am_Ev am_PR d 165 [am_R 32 i0] (z, x) (cvI1 z q) := by
  obtain ⟨d, rfl⟩ : ∃ e, d = e + 1 := ⟨d - 1, by omega⟩
  refine to_ev (P := (am_tab pX9_mayBook)) rfl (lv := [(0, am_R 32 i0)]) rfl ?_ q h
  unfold f_X9_mayBook
  refine to_if 4 (c := (xF x 32 32 i0) = (-1 : Int32)) (p1 := 21) (p2 := 8) (a' := ([(0, am_R 32 i0)], ([], (z, x)))) rfl (fun c_1 => ?_) (fun c_1 => ?_)
  · exact to_rk 1 22 (c := am_bz (0 : Int32) = true) (r := ((0 : Int32), x)) rfl rfl (by decide)
  · refine to_if 4 (c := (40 : Int32) ≤ (xF x 32 35 i0)) (p1 := 21) (p2 := 17) (a' := ([(0, am_R 32 i0)], ([], (z, x)))) rfl (fun c_2 => ?_) (fun c_2 => ?_)
    · exact to_rk 1 22 (c := am_bz (0 : Int32) = true) (r := ((0 : Int32), x)) rfl rfl (by decide)
    · exact to_rk 2 22 (c := am_bz (1 : Int32) = true) (r := ((1 : Int32), x)) rfl rfl (by decide)
def f_X9_ways (n : Nat) (i0 : Nat) (x : am_X) : Option (Int32 × am_X) := (f_X9_mayBook n i0 x).bind fun q1 => if ¬ q1.1 = 0 then ((f_X9_layWays n i0 (sF q1.2 32 35 i0 ((xF q1.2 32 35 i0) + (1 : Int32)))).bind fun q3 => some ((xF q3 32 42 i0), q3)) else (some ((-103 : Int32), q1.2))
theorem t_X9_ways {n : Nat} {d : Nat} {i0 : Nat} {x z : am_X} {q : Int32 × am_X} (hd : 8 ≤ d) (h : f_X9_ways n i0 x = some q) : am_Ev am_PR d 166 [am_R 32 i0] (z, x) (cvI1 z q) := by
  obtain ⟨d, rfl⟩ : ∃ e, d = e + 1 := ⟨d - 1, by omega⟩
  refine to_ev (P := (am_tab pX9_ways)) rfl (lv := [(0, am_R 32 i0)]) rfl ?_ q h
  unfold f_X9_ways
  refine to_cl 2 (lv := [(0, am_R 32 i0)]) (st := []) (M := (z, x)) (cb := (cvI1 z)) rfl (fun q hq => t_X9_mayBook (by omega) hq) (fun q1 => ?_)
  refine to_if 1 (c := ¬ q1.1 = 0) (p1 := 10) (p2 := 7) (a' := ([(0, am_R 32 i0)], ([], (z, q1.2)))) rfl (fun c_2 => ?_) (fun c_2 => ?_)
  · refine to_go 4 (pc' := 16) (a' := ([(0, am_R 32 i0)], ([am_I (1 : Int32), am_I (xF q1.2 32 35 i0), am_R 32 i0], (z, q1.2)))) rfl ?_
    refine to_cl 4 (lv := [(0, am_R 32 i0)]) (st := []) (M := (z, (sF q1.2 32 35 i0 ((xF q1.2 32 35 i0) + (1 : Int32))))) (cb := (cvV1 z)) rfl (fun q hq => t_X9_layWays (by omega) hq) (fun q3 => ?_)
    exact to_rt 3 (r := ((xF q3 32 42 i0), q3)) rfl
  · exact to_rt 2 (r := ((-103 : Int32), q1.2)) rfl
def f_X9_owed (n : Nat) (i0 : Nat) (x : am_X) : Option (Int32 × am_X) := (f_X9_mayBook n i0 x).bind fun q1 => if ¬ q1.1 = 0 then ((f_X9_layWays n i0 (sF q1.2 32 35 i0 ((xF q1.2 32 35 i0) + (1 : Int32)))).bind fun q3 => some ((xF q3 32 43 i0), q3)) else (some ((-103 : Int32), q1.2))
theorem t_X9_owed {n : Nat} {d : Nat} {i0 : Nat} {x z : am_X} {q : Int32 × am_X} (hd : 8 ≤ d) (h : f_X9_owed n i0 x = some q) : am_Ev am_PR d 167 [am_R 32 i0] (z, x) (cvI1 z q) := by
  obtain ⟨d, rfl⟩ : ∃ e, d = e + 1 := ⟨d - 1, by omega⟩
  refine to_ev (P := (am_tab pX9_owed)) rfl (lv := [(0, am_R 32 i0)]) rfl ?_ q h
  unfold f_X9_owed
  refine to_cl 2 (lv := [(0, am_R 32 i0)]) (st := []) (M := (z, x)) (cb := (cvI1 z)) rfl (fun q hq => t_X9_mayBook (by omega) hq) (fun q1 => ?_)
  refine to_if 1 (c := ¬ q1.1 = 0) (p1 := 10) (p2 := 7) (a' := ([(0, am_R 32 i0)], ([], (z, q1.2)))) rfl (fun c_2 => ?_) (fun c_2 => ?_)
  · refine to_go 4 (pc' := 16) (a' := ([(0, am_R 32 i0)], ([am_I (1 : Int32), am_I (xF q1.2 32 35 i0), am_R 32 i0], (z, q1.2)))) rfl ?_
    refine to_cl 4 (lv := [(0, am_R 32 i0)]) (st := []) (M := (z, (sF q1.2 32 35 i0 ((xF q1.2 32 35 i0) + (1 : Int32))))) (cb := (cvV1 z)) rfl (fun q hq => t_X9_layWays (by omega) hq) (fun q3 => ?_)
    exact to_rt 3 (r := ((xF q3 32 43 i0), q3)) rfl
  · exact to_rt 2 (r := ((-103 : Int32), q1.2)) rfl
def b_X9_save_71 (n : Nat) : Nat → Nat → Int32 → am_X → Option (am_X)
  | 0, _, _, _ => none
  | k + 1, i0, v1, x => if (48 : Int32) ≤ v1 then (some x) else (if am_inB v1 60 = true then (if am_inB v1 48 = true then (b_X9_save_71 n k i0 (v1 + (1 : Int32)) (sA x 90 0 (Int32.toNatClampNeg v1) (xA x 54 0 (Int32.toNatClampNeg v1)))) else none) else none)
theorem tb_X9_save_71 {n : Nat} {d : Nat} {z : am_X} (hd : 0 ≤ d) : ∀ (k : Nat) (i0 : Nat) (v1 : Int32) (x : am_X), am_To d (am_tab pX9_save) 71 ([(0, am_R 32 i0), (1, am_I v1)], ([], (z, x))) (cvV1 z) (b_X9_save_71 n k i0 v1 x) := by
  intro k
  induction k with
  | zero =>
    intro i0 v1 x
    exact to_0
  | succ k ih =>
    intro i0 v1 x
    rw [b_X9_save_71]
    refine to_if 3 (c := (48 : Int32) ≤ v1) (p1 := 95) (p2 := 77) (a' := ([(0, am_R 32 i0), (1, am_I v1)], ([], (z, x)))) rfl (fun c_1 => ?_) (fun c_1 => ?_)
    · exact to_rt 1 rfl
    · refine to_go 4 (pc' := 83) (a' := ([(0, am_R 32 i0), (1, am_I v1)], ([am_R 32 i0, am_I v1, am_R 90 0], (z, x)))) rfl ?_
      refine to_gd 2 87 (c := am_inB v1 60 = true) (pc' := 88) (a' := ([(0, am_R 32 i0), (1, am_I v1)], ([am_I (xA x 54 0 (Int32.toNatClampNeg v1)), am_I v1, am_R 90 0], (z, x)))) rfl rfl (fun c_2 => ?_)
      refine to_gd 0 88 (c := am_inB v1 48 = true) (pc' := 89) (a' := ([(0, am_R 32 i0), (1, am_I v1)], ([], (z, (sA x 90 0 (Int32.toNatClampNeg v1) (xA x 54 0 (Int32.toNatClampNeg v1))))))) rfl rfl (fun c_3 => ?_)
      refine to_go 2 (pc' := 71) (a' := ([(1, am_I (v1 + (1 : Int32))), (0, am_R 32 i0)], ([], (z, (sA x 90 0 (Int32.toNatClampNeg v1) (xA x 54 0 (Int32.toNatClampNeg v1))))))) rfl ?_
      refine to_fg [1, 0] (lv' := [(0, am_R 32 i0), (1, am_I (v1 + (1 : Int32)))]) rfl ?_
      exact ih i0 (v1 + (1 : Int32)) (sA x 90 0 (Int32.toNatClampNeg v1) (xA x 54 0 (Int32.toNatClampNeg v1)))
def b_X9_save_10 (n : Nat) : Nat → Nat → Int32 → am_X → Option (am_X)
  | 0, _, _, _ => none
  | k + 1, i0, v1, x => if (4 : Int32) ≤ v1 then (b_X9_save_71 n n i0 (0 : Int32) x) else (if am_inB v1 5 = true then (if am_inB v1 4 = true then (if am_inB v1 5 = true then (if am_inB v1 4 = true then (if am_inB v1 5 = true then (if am_inB v1 4 = true then (if am_inB v1 5 = true then (if am_inB v1 4 = true then (b_X9_save_10 n k i0 (v1 + (1 : Int32)) (sA (sA (sA (sA x 86 0 (Int32.toNatClampNeg v1) (xA x 49 0 (Int32.toNatClampNeg v1))) 87 0 (Int32.toNatClampNeg v1) (xA x 50 0 (Int32.toNatClampNeg v1))) 88 0 (Int32.toNatClampNeg v1) (xA x 51 0 (Int32.toNatClampNeg v1))) 89 0 (Int32.toNatClampNeg v1) (xA x 53 0 (Int32.toNatClampNeg v1)))) else none) else none) else none) else none) else none) else none) else none) else none)
theorem tb_X9_save_10 {n : Nat} {d : Nat} {z : am_X} (hd : 0 ≤ d) : ∀ (k : Nat) (i0 : Nat) (v1 : Int32) (x : am_X), am_To d (am_tab pX9_save) 10 ([(0, am_R 32 i0), (1, am_I v1)], ([], (z, x))) (cvV1 z) (b_X9_save_10 n k i0 v1 x) := by
  intro k
  induction k with
  | zero =>
    intro i0 v1 x
    exact to_0
  | succ k ih =>
    intro i0 v1 x
    rw [b_X9_save_10]
    refine to_if 3 (c := (4 : Int32) ≤ v1) (p1 := 69) (p2 := 15) (a' := ([(0, am_R 32 i0), (1, am_I v1)], ([], (z, x)))) rfl (fun c_1 => ?_) (fun c_1 => ?_)
    · refine to_go 2 (pc' := 71) (a' := ([(1, am_I (0 : Int32)), (0, am_R 32 i0)], ([], (z, x)))) rfl ?_
      refine to_fg [1, 0] (lv' := [(0, am_R 32 i0), (1, am_I (0 : Int32))]) rfl ?_
      exact tb_X9_save_71 (by omega)  n i0 (0 : Int32) x
    · refine to_go 4 (pc' := 21) (a' := ([(0, am_R 32 i0), (1, am_I v1)], ([am_R 32 i0, am_I v1, am_R 86 0], (z, x)))) rfl ?_
      refine to_gd 2 25 (c := am_inB v1 5 = true) (pc' := 26) (a' := ([(0, am_R 32 i0), (1, am_I v1)], ([am_I (xA x 49 0 (Int32.toNatClampNeg v1)), am_I v1, am_R 86 0], (z, x)))) rfl rfl (fun c_2 => ?_)
      refine to_gd 0 26 (c := am_inB v1 4 = true) (pc' := 27) (a' := ([(0, am_R 32 i0), (1, am_I v1)], ([], (z, (sA x 86 0 (Int32.toNatClampNeg v1) (xA x 49 0 (Int32.toNatClampNeg v1))))))) rfl rfl (fun c_3 => ?_)
      refine to_go 4 (pc' := 33) (a' := ([(0, am_R 32 i0), (1, am_I v1)], ([am_R 32 i0, am_I v1, am_R 87 0], (z, (sA x 86 0 (Int32.toNatClampNeg v1) (xA x 49 0 (Int32.toNatClampNeg v1))))))) rfl ?_
      refine to_gd 2 37 (c := am_inB v1 5 = true) (pc' := 38) (a' := ([(0, am_R 32 i0), (1, am_I v1)], ([am_I (xA x 50 0 (Int32.toNatClampNeg v1)), am_I v1, am_R 87 0], (z, (sA x 86 0 (Int32.toNatClampNeg v1) (xA x 49 0 (Int32.toNatClampNeg v1))))))) rfl rfl (fun c_4 => ?_)
      refine to_gd 0 38 (c := am_inB v1 4 = true) (pc' := 39) (a' := ([(0, am_R 32 i0), (1, am_I v1)], ([], (z, (sA (sA x 86 0 (Int32.toNatClampNeg v1) (xA x 49 0 (Int32.toNatClampNeg v1))) 87 0 (Int32.toNatClampNeg v1) (xA x 50 0 (Int32.toNatClampNeg v1))))))) rfl rfl (fun c_5 => ?_)
      refine to_go 4 (pc' := 45) (a' := ([(0, am_R 32 i0), (1, am_I v1)], ([am_R 32 i0, am_I v1, am_R 88 0], (z, (sA (sA x 86 0 (Int32.toNatClampNeg v1) (xA x 49 0 (Int32.toNatClampNeg v1))) 87 0 (Int32.toNatClampNeg v1) (xA x 50 0 (Int32.toNatClampNeg v1))))))) rfl ?_
      refine to_gd 2 49 (c := am_inB v1 5 = true) (pc' := 50) (a' := ([(0, am_R 32 i0), (1, am_I v1)], ([am_I (xA x 51 0 (Int32.toNatClampNeg v1)), am_I v1, am_R 88 0], (z, (sA (sA x 86 0 (Int32.toNatClampNeg v1) (xA x 49 0 (Int32.toNatClampNeg v1))) 87 0 (Int32.toNatClampNeg v1) (xA x 50 0 (Int32.toNatClampNeg v1))))))) rfl rfl (fun c_6 => ?_)
      refine to_gd 0 50 (c := am_inB v1 4 = true) (pc' := 51) (a' := ([(0, am_R 32 i0), (1, am_I v1)], ([], (z, (sA (sA (sA x 86 0 (Int32.toNatClampNeg v1) (xA x 49 0 (Int32.toNatClampNeg v1))) 87 0 (Int32.toNatClampNeg v1) (xA x 50 0 (Int32.toNatClampNeg v1))) 88 0 (Int32.toNatClampNeg v1) (xA x 51 0 (Int32.toNatClampNeg v1))))))) rfl rfl (fun c_7 => ?_)
      refine to_go 4 (pc' := 57) (a' := ([(0, am_R 32 i0), (1, am_I v1)], ([am_R 32 i0, am_I v1, am_R 89 0], (z, (sA (sA (sA x 86 0 (Int32.toNatClampNeg v1) (xA x 49 0 (Int32.toNatClampNeg v1))) 87 0 (Int32.toNatClampNeg v1) (xA x 50 0 (Int32.toNatClampNeg v1))) 88 0 (Int32.toNatClampNeg v1) (xA x 51 0 (Int32.toNatClampNeg v1))))))) rfl ?_
      refine to_gd 2 61 (c := am_inB v1 5 = true) (pc' := 62) (a' := ([(0, am_R 32 i0), (1, am_I v1)], ([am_I (xA x 53 0 (Int32.toNatClampNeg v1)), am_I v1, am_R 89 0], (z, (sA (sA (sA x 86 0 (Int32.toNatClampNeg v1) (xA x 49 0 (Int32.toNatClampNeg v1))) 87 0 (Int32.toNatClampNeg v1) (xA x 50 0 (Int32.toNatClampNeg v1))) 88 0 (Int32.toNatClampNeg v1) (xA x 51 0 (Int32.toNatClampNeg v1))))))) rfl rfl (fun c_8 => ?_)
      refine to_gd 0 62 (c := am_inB v1 4 = true) (pc' := 63) (a' := ([(0, am_R 32 i0), (1, am_I v1)], ([], (z, (sA (sA (sA (sA x 86 0 (Int32.toNatClampNeg v1) (xA x 49 0 (Int32.toNatClampNeg v1))) 87 0 (Int32.toNatClampNeg v1) (xA x 50 0 (Int32.toNatClampNeg v1))) 88 0 (Int32.toNatClampNeg v1) (xA x 51 0 (Int32.toNatClampNeg v1))) 89 0 (Int32.toNatClampNeg v1) (xA x 53 0 (Int32.toNatClampNeg v1))))))) rfl rfl (fun c_9 => ?_)
      refine to_go 2 (pc' := 10) (a' := ([(1, am_I (v1 + (1 : Int32))), (0, am_R 32 i0)], ([], (z, (sA (sA (sA (sA x 86 0 (Int32.toNatClampNeg v1) (xA x 49 0 (Int32.toNatClampNeg v1))) 87 0 (Int32.toNatClampNeg v1) (xA x 50 0 (Int32.toNatClampNeg v1))) 88 0 (Int32.toNatClampNeg v1) (xA x 51 0 (Int32.toNatClampNeg v1))) 89 0 (Int32.toNatClampNeg v1) (xA x 53 0 (Int32.toNatClampNeg v1))))))) rfl ?_
      refine to_fg [1, 0] (lv' := [(0, am_R 32 i0), (1, am_I (v1 + (1 : Int32)))]) rfl ?_
      exact ih i0 (v1 + (1 : Int32)) (sA (sA (sA (sA x 86 0 (Int32.toNatClampNeg v1) (xA x 49 0 (Int32.toNatClampNeg v1))) 87 0 (Int32.toNatClampNeg v1) (xA x 50 0 (Int32.toNatClampNeg v1))) 88 0 (Int32.toNatClampNeg v1) (xA x 51 0 (Int32.toNatClampNeg v1))) 89 0 (Int32.toNatClampNeg v1) (xA x 53 0 (Int32.toNatClampNeg v1)))
def f_X9_save (n : Nat) (i0 : Nat) (x : am_X) : Option (am_X) := b_X9_save_10 n n i0 (0 : Int32) (sF x 32 45 i0 (xF x 32 6 i0))
theorem t_X9_save {n : Nat} {d : Nat} {i0 : Nat} {x z : am_X} {q : am_X} (hd : 1 ≤ d) (h : f_X9_save n i0 x = some q) : am_Ev am_PR d 168 [am_R 32 i0] (z, x) (cvV1 z q) := by
  obtain ⟨d, rfl⟩ : ∃ e, d = e + 1 := ⟨d - 1, by omega⟩
  refine to_ev (P := (am_tab pX9_save)) rfl (lv := [(0, am_R 32 i0)]) rfl ?_ q h
  unfold f_X9_save
  refine to_go 4 (pc' := 8) (a' := ([(0, am_R 32 i0)], ([], (z, (sF x 32 45 i0 (xF x 32 6 i0)))))) rfl ?_
  refine to_go 2 (pc' := 10) (a' := ([(1, am_I (0 : Int32)), (0, am_R 32 i0)], ([], (z, (sF x 32 45 i0 (xF x 32 6 i0)))))) rfl ?_
  refine to_fg [1, 0] (lv' := [(0, am_R 32 i0), (1, am_I (0 : Int32))]) rfl ?_
  exact tb_X9_save_10 (by omega)  n i0 (0 : Int32) (sF x 32 45 i0 (xF x 32 6 i0))
def b_X9_back_71 (n : Nat) : Nat → Nat → Int32 → am_X → Option (am_X)
  | 0, _, _, _ => none
  | k + 1, i0, v1, x => if (48 : Int32) ≤ v1 then (some x) else (if am_inB v1 48 = true then (if am_inB v1 60 = true then (b_X9_back_71 n k i0 (v1 + (1 : Int32)) (sA x 54 0 (Int32.toNatClampNeg v1) (xA x 90 0 (Int32.toNatClampNeg v1)))) else none) else none)
theorem tb_X9_back_71 {n : Nat} {d : Nat} {z : am_X} (hd : 0 ≤ d) : ∀ (k : Nat) (i0 : Nat) (v1 : Int32) (x : am_X), am_To d (am_tab pX9_back) 71 ([(0, am_R 32 i0), (1, am_I v1)], ([], (z, x))) (cvV1 z) (b_X9_back_71 n k i0 v1 x) := by
  intro k
  induction k with
  | zero =>
    intro i0 v1 x
    exact to_0
  | succ k ih =>
    intro i0 v1 x
    rw [b_X9_back_71]
    refine to_if 3 (c := (48 : Int32) ≤ v1) (p1 := 95) (p2 := 77) (a' := ([(0, am_R 32 i0), (1, am_I v1)], ([], (z, x)))) rfl (fun c_1 => ?_) (fun c_1 => ?_)
    · exact to_rt 1 rfl
    · refine to_go 4 (pc' := 83) (a' := ([(0, am_R 32 i0), (1, am_I v1)], ([am_R 32 i0, am_I v1, am_R 54 0], (z, x)))) rfl ?_
      refine to_gd 2 87 (c := am_inB v1 48 = true) (pc' := 88) (a' := ([(0, am_R 32 i0), (1, am_I v1)], ([am_I (xA x 90 0 (Int32.toNatClampNeg v1)), am_I v1, am_R 54 0], (z, x)))) rfl rfl (fun c_2 => ?_)
      refine to_gd 0 88 (c := am_inB v1 60 = true) (pc' := 89) (a' := ([(0, am_R 32 i0), (1, am_I v1)], ([], (z, (sA x 54 0 (Int32.toNatClampNeg v1) (xA x 90 0 (Int32.toNatClampNeg v1))))))) rfl rfl (fun c_3 => ?_)
      refine to_go 2 (pc' := 71) (a' := ([(1, am_I (v1 + (1 : Int32))), (0, am_R 32 i0)], ([], (z, (sA x 54 0 (Int32.toNatClampNeg v1) (xA x 90 0 (Int32.toNatClampNeg v1))))))) rfl ?_
      refine to_fg [1, 0] (lv' := [(0, am_R 32 i0), (1, am_I (v1 + (1 : Int32)))]) rfl ?_
      exact ih i0 (v1 + (1 : Int32)) (sA x 54 0 (Int32.toNatClampNeg v1) (xA x 90 0 (Int32.toNatClampNeg v1)))
def b_X9_back_10 (n : Nat) : Nat → Nat → Int32 → am_X → Option (am_X)
  | 0, _, _, _ => none
  | k + 1, i0, v1, x => if (4 : Int32) ≤ v1 then (b_X9_back_71 n n i0 (0 : Int32) x) else (if am_inB v1 4 = true then (if am_inB v1 5 = true then (if am_inB v1 4 = true then (if am_inB v1 5 = true then (if am_inB v1 4 = true then (if am_inB v1 5 = true then (if am_inB v1 4 = true then (if am_inB v1 5 = true then (b_X9_back_10 n k i0 (v1 + (1 : Int32)) (sA (sA (sA (sA x 49 0 (Int32.toNatClampNeg v1) (xA x 86 0 (Int32.toNatClampNeg v1))) 50 0 (Int32.toNatClampNeg v1) (xA x 87 0 (Int32.toNatClampNeg v1))) 51 0 (Int32.toNatClampNeg v1) (xA x 88 0 (Int32.toNatClampNeg v1))) 53 0 (Int32.toNatClampNeg v1) (xA x 89 0 (Int32.toNatClampNeg v1)))) else none) else none) else none) else none) else none) else none) else none) else none)
theorem tb_X9_back_10 {n : Nat} {d : Nat} {z : am_X} (hd : 0 ≤ d) : ∀ (k : Nat) (i0 : Nat) (v1 : Int32) (x : am_X), am_To d (am_tab pX9_back) 10 ([(0, am_R 32 i0), (1, am_I v1)], ([], (z, x))) (cvV1 z) (b_X9_back_10 n k i0 v1 x) := by
  intro k
  induction k with
  | zero =>
    intro i0 v1 x
    exact to_0
  | succ k ih =>
    intro i0 v1 x
    rw [b_X9_back_10]
    refine to_if 3 (c := (4 : Int32) ≤ v1) (p1 := 69) (p2 := 15) (a' := ([(0, am_R 32 i0), (1, am_I v1)], ([], (z, x)))) rfl (fun c_1 => ?_) (fun c_1 => ?_)
    · refine to_go 2 (pc' := 71) (a' := ([(1, am_I (0 : Int32)), (0, am_R 32 i0)], ([], (z, x)))) rfl ?_
      refine to_fg [1, 0] (lv' := [(0, am_R 32 i0), (1, am_I (0 : Int32))]) rfl ?_
      exact tb_X9_back_71 (by omega)  n i0 (0 : Int32) x
    · refine to_go 4 (pc' := 21) (a' := ([(0, am_R 32 i0), (1, am_I v1)], ([am_R 32 i0, am_I v1, am_R 49 0], (z, x)))) rfl ?_
      refine to_gd 2 25 (c := am_inB v1 4 = true) (pc' := 26) (a' := ([(0, am_R 32 i0), (1, am_I v1)], ([am_I (xA x 86 0 (Int32.toNatClampNeg v1)), am_I v1, am_R 49 0], (z, x)))) rfl rfl (fun c_2 => ?_)
      refine to_gd 0 26 (c := am_inB v1 5 = true) (pc' := 27) (a' := ([(0, am_R 32 i0), (1, am_I v1)], ([], (z, (sA x 49 0 (Int32.toNatClampNeg v1) (xA x 86 0 (Int32.toNatClampNeg v1))))))) rfl rfl (fun c_3 => ?_)
      refine to_go 4 (pc' := 33) (a' := ([(0, am_R 32 i0), (1, am_I v1)], ([am_R 32 i0, am_I v1, am_R 50 0], (z, (sA x 49 0 (Int32.toNatClampNeg v1) (xA x 86 0 (Int32.toNatClampNeg v1))))))) rfl ?_
      refine to_gd 2 37 (c := am_inB v1 4 = true) (pc' := 38) (a' := ([(0, am_R 32 i0), (1, am_I v1)], ([am_I (xA x 87 0 (Int32.toNatClampNeg v1)), am_I v1, am_R 50 0], (z, (sA x 49 0 (Int32.toNatClampNeg v1) (xA x 86 0 (Int32.toNatClampNeg v1))))))) rfl rfl (fun c_4 => ?_)
      refine to_gd 0 38 (c := am_inB v1 5 = true) (pc' := 39) (a' := ([(0, am_R 32 i0), (1, am_I v1)], ([], (z, (sA (sA x 49 0 (Int32.toNatClampNeg v1) (xA x 86 0 (Int32.toNatClampNeg v1))) 50 0 (Int32.toNatClampNeg v1) (xA x 87 0 (Int32.toNatClampNeg v1))))))) rfl rfl (fun c_5 => ?_)
      refine to_go 4 (pc' := 45) (a' := ([(0, am_R 32 i0), (1, am_I v1)], ([am_R 32 i0, am_I v1, am_R 51 0], (z, (sA (sA x 49 0 (Int32.toNatClampNeg v1) (xA x 86 0 (Int32.toNatClampNeg v1))) 50 0 (Int32.toNatClampNeg v1) (xA x 87 0 (Int32.toNatClampNeg v1))))))) rfl ?_
      refine to_gd 2 49 (c := am_inB v1 4 = true) (pc' := 50) (a' := ([(0, am_R 32 i0), (1, am_I v1)], ([am_I (xA x 88 0 (Int32.toNatClampNeg v1)), am_I v1, am_R 51 0], (z, (sA (sA x 49 0 (Int32.toNatClampNeg v1) (xA x 86 0 (Int32.toNatClampNeg v1))) 50 0 (Int32.toNatClampNeg v1) (xA x 87 0 (Int32.toNatClampNeg v1))))))) rfl rfl (fun c_6 => ?_)
      refine to_gd 0 50 (c := am_inB v1 5 = true) (pc' := 51) (a' := ([(0, am_R 32 i0), (1, am_I v1)], ([], (z, (sA (sA (sA x 49 0 (Int32.toNatClampNeg v1) (xA x 86 0 (Int32.toNatClampNeg v1))) 50 0 (Int32.toNatClampNeg v1) (xA x 87 0 (Int32.toNatClampNeg v1))) 51 0 (Int32.toNatClampNeg v1) (xA x 88 0 (Int32.toNatClampNeg v1))))))) rfl rfl (fun c_7 => ?_)
      refine to_go 4 (pc' := 57) (a' := ([(0, am_R 32 i0), (1, am_I v1)], ([am_R 32 i0, am_I v1, am_R 53 0], (z, (sA (sA (sA x 49 0 (Int32.toNatClampNeg v1) (xA x 86 0 (Int32.toNatClampNeg v1))) 50 0 (Int32.toNatClampNeg v1) (xA x 87 0 (Int32.toNatClampNeg v1))) 51 0 (Int32.toNatClampNeg v1) (xA x 88 0 (Int32.toNatClampNeg v1))))))) rfl ?_
      refine to_gd 2 61 (c := am_inB v1 4 = true) (pc' := 62) (a' := ([(0, am_R 32 i0), (1, am_I v1)], ([am_I (xA x 89 0 (Int32.toNatClampNeg v1)), am_I v1, am_R 53 0], (z, (sA (sA (sA x 49 0 (Int32.toNatClampNeg v1) (xA x 86 0 (Int32.toNatClampNeg v1))) 50 0 (Int32.toNatClampNeg v1) (xA x 87 0 (Int32.toNatClampNeg v1))) 51 0 (Int32.toNatClampNeg v1) (xA x 88 0 (Int32.toNatClampNeg v1))))))) rfl rfl (fun c_8 => ?_)
      refine to_gd 0 62 (c := am_inB v1 5 = true) (pc' := 63) (a' := ([(0, am_R 32 i0), (1, am_I v1)], ([], (z, (sA (sA (sA (sA x 49 0 (Int32.toNatClampNeg v1) (xA x 86 0 (Int32.toNatClampNeg v1))) 50 0 (Int32.toNatClampNeg v1) (xA x 87 0 (Int32.toNatClampNeg v1))) 51 0 (Int32.toNatClampNeg v1) (xA x 88 0 (Int32.toNatClampNeg v1))) 53 0 (Int32.toNatClampNeg v1) (xA x 89 0 (Int32.toNatClampNeg v1))))))) rfl rfl (fun c_9 => ?_)
      refine to_go 2 (pc' := 10) (a' := ([(1, am_I (v1 + (1 : Int32))), (0, am_R 32 i0)], ([], (z, (sA (sA (sA (sA x 49 0 (Int32.toNatClampNeg v1) (xA x 86 0 (Int32.toNatClampNeg v1))) 50 0 (Int32.toNatClampNeg v1) (xA x 87 0 (Int32.toNatClampNeg v1))) 51 0 (Int32.toNatClampNeg v1) (xA x 88 0 (Int32.toNatClampNeg v1))) 53 0 (Int32.toNatClampNeg v1) (xA x 89 0 (Int32.toNatClampNeg v1))))))) rfl ?_
      refine to_fg [1, 0] (lv' := [(0, am_R 32 i0), (1, am_I (v1 + (1 : Int32)))]) rfl ?_
      exact ih i0 (v1 + (1 : Int32)) (sA (sA (sA (sA x 49 0 (Int32.toNatClampNeg v1) (xA x 86 0 (Int32.toNatClampNeg v1))) 50 0 (Int32.toNatClampNeg v1) (xA x 87 0 (Int32.toNatClampNeg v1))) 51 0 (Int32.toNatClampNeg v1) (xA x 88 0 (Int32.toNatClampNeg v1))) 53 0 (Int32.toNatClampNeg v1) (xA x 89 0 (Int32.toNatClampNeg v1)))
def f_X9_back (n : Nat) (i0 : Nat) (x : am_X) : Option (am_X) := b_X9_back_10 n n i0 (0 : Int32) (sF x 32 6 i0 (xF x 32 45 i0))
theorem t_X9_back {n : Nat} {d : Nat} {i0 : Nat} {x z : am_X} {q : am_X} (hd : 1 ≤ d) (h : f_X9_back n i0 x = some q) : am_Ev am_PR d 169 [am_R 32 i0] (z, x) (cvV1 z q) := by
  obtain ⟨d, rfl⟩ : ∃ e, d = e + 1 := ⟨d - 1, by omega⟩
  refine to_ev (P := (am_tab pX9_back)) rfl (lv := [(0, am_R 32 i0)]) rfl ?_ q h
  unfold f_X9_back
  refine to_go 4 (pc' := 8) (a' := ([(0, am_R 32 i0)], ([], (z, (sF x 32 6 i0 (xF x 32 45 i0)))))) rfl ?_
  refine to_go 2 (pc' := 10) (a' := ([(1, am_I (0 : Int32)), (0, am_R 32 i0)], ([], (z, (sF x 32 6 i0 (xF x 32 45 i0)))))) rfl ?_
  refine to_fg [1, 0] (lv' := [(0, am_R 32 i0), (1, am_I (0 : Int32))]) rfl ?_
  exact tb_X9_back_10 (by omega)  n i0 (0 : Int32) (sF x 32 6 i0 (xF x 32 45 i0))
def f_X9_draw (n : Nat) (i0 : Nat) (v1 : Int32) (x : am_X) : Option (Int32 × am_X) := if ¬ (Int32.toInt64 v1) = 0 then (some ((Int64.toInt32 (((xL (sL x 44 ((((1103515245 : Int64) * (xL x 44)) + (12345 : Int64)) &&& (2147483647 : Int64))) 44) / (65536 : Int64)) - ((xL (sL x 44 ((((1103515245 : Int64) * (xL x 44)) + (12345 : Int64)) &&& (2147483647 : Int64))) 44) / (65536 : Int64)) / (Int32.toInt64 v1) * (Int32.toInt64 v1))), (sL x 44 ((((1103515245 : Int64) * (xL x 44)) + (12345 : Int64)) &&& (2147483647 : Int64))))) else none
theorem t_X9_draw {n : Nat} {d : Nat} {i0 : Nat} {v1 : Int32} {x z : am_X} {q : Int32 × am_X} (hd : 1 ≤ d) (h : f_X9_draw n i0 v1 x = some q) : am_Ev am_PR d 170 [am_R 32 i0, am_I v1] (z, x) (cvI1 z q) := by
  obtain ⟨d, rfl⟩ : ∃ e, d = e + 1 := ⟨d - 1, by omega⟩
  refine to_ev (P := (am_tab pX9_draw)) rfl (lv := [(0, am_R 32 i0), (1, am_I v1)]) rfl ?_ q h
  unfold f_X9_draw
  refine to_go 4 (pc' := 8) (a' := ([(0, am_R 32 i0), (1, am_I v1)], ([am_J (xL x 44), am_J (1103515245 : Int64), am_R 32 i0], (z, x)))) rfl ?_
  refine to_go 4 (pc' := 16) (a' := ([(0, am_R 32 i0), (1, am_I v1)], ([am_J (2147483647 : Int64), am_J (((1103515245 : Int64) * (xL x 44)) + (12345 : Int64)), am_R 32 i0], (z, x)))) rfl ?_
  refine to_go 4 (pc' := 24) (a' := ([(0, am_R 32 i0), (1, am_I v1)], ([am_J (xL (sL x 44 ((((1103515245 : Int64) * (xL x 44)) + (12345 : Int64)) &&& (2147483647 : Int64))) 44)], (z, (sL x 44 ((((1103515245 : Int64) * (xL x 44)) + (12345 : Int64)) &&& (2147483647 : Int64))))))) rfl ?_
  refine to_gk 1 27 (c := ¬ (65536 : Int64) = 0) (pc' := 28) (a' := ([(0, am_R 32 i0), (1, am_I v1)], ([am_J ((xL (sL x 44 ((((1103515245 : Int64) * (xL x 44)) + (12345 : Int64)) &&& (2147483647 : Int64))) 44) / (65536 : Int64))], (z, (sL x 44 ((((1103515245 : Int64) * (xL x 44)) + (12345 : Int64)) &&& (2147483647 : Int64))))))) rfl rfl (by decide) ?_
  refine to_gd 2 30 (c := ¬ (Int32.toInt64 v1) = 0) (pc' := 31) (a' := ([(0, am_R 32 i0), (1, am_I v1)], ([am_J (((xL (sL x 44 ((((1103515245 : Int64) * (xL x 44)) + (12345 : Int64)) &&& (2147483647 : Int64))) 44) / (65536 : Int64)) - ((xL (sL x 44 ((((1103515245 : Int64) * (xL x 44)) + (12345 : Int64)) &&& (2147483647 : Int64))) 44) / (65536 : Int64)) / (Int32.toInt64 v1) * (Int32.toInt64 v1))], (z, (sL x 44 ((((1103515245 : Int64) * (xL x 44)) + (12345 : Int64)) &&& (2147483647 : Int64))))))) rfl rfl (fun c_1 => ?_)
  exact to_rt 2 (r := ((Int64.toInt32 (((xL (sL x 44 ((((1103515245 : Int64) * (xL x 44)) + (12345 : Int64)) &&& (2147483647 : Int64))) 44) / (65536 : Int64)) - ((xL (sL x 44 ((((1103515245 : Int64) * (xL x 44)) + (12345 : Int64)) &&& (2147483647 : Int64))) 44) / (65536 : Int64)) / (Int32.toInt64 v1) * (Int32.toInt64 v1))), (sL x 44 ((((1103515245 : Int64) * (xL x 44)) + (12345 : Int64)) &&& (2147483647 : Int64))))) rfl
def b_X9_gotAll_4 (n : Nat) : Nat → Nat → Int32 → Int32 → am_X → Option (Int32 × am_X)
  | 0, _, _, _, _ => none
  | k + 1, i0, v1, v2, x => if (xF x 32 7 i0) ≤ v2 then (some (v1, x)) else (if am_inB v2 5 = true then (b_X9_gotAll_4 n k i0 (v1 + (xA x 49 0 (Int32.toNatClampNeg v2))) (v2 + (1 : Int32)) x) else none)
theorem tb_X9_gotAll_4 {n : Nat} {d : Nat} {z : am_X} (hd : 0 ≤ d) : ∀ (k : Nat) (i0 : Nat) (v1 : Int32) (v2 : Int32) (x : am_X), am_To d (am_tab pX9_gotAll) 4 ([(0, am_R 32 i0), (1, am_I v1), (2, am_I v2)], ([], (z, x))) (cvI1 z) (b_X9_gotAll_4 n k i0 v1 v2 x) := by
  intro k
  induction k with
  | zero =>
    intro i0 v1 v2 x
    exact to_0
  | succ k ih =>
    intro i0 v1 v2 x
    rw [b_X9_gotAll_4]
    refine to_if 4 (c := (xF x 32 7 i0) ≤ v2) (p1 := 27) (p2 := 12) (a' := ([(0, am_R 32 i0), (1, am_I v1), (2, am_I v2)], ([], (z, x)))) rfl (fun c_1 => ?_) (fun c_1 => ?_)
    · exact to_rt 2 (r := (v1, x)) rfl
    · refine to_go 4 (pc' := 18) (a' := ([(0, am_R 32 i0), (1, am_I v1), (2, am_I v2)], ([am_I v2, am_R 49 0, am_I v1], (z, x)))) rfl ?_
      refine to_gd 0 18 (c := am_inB v2 5 = true) (pc' := 19) (a' := ([(0, am_R 32 i0), (1, am_I v1), (2, am_I v2)], ([am_I (xA x 49 0 (Int32.toNatClampNeg v2)), am_I v1], (z, x)))) rfl rfl (fun c_2 => ?_)
      refine to_go 4 (pc' := 4) (a' := ([(2, am_I (v2 + (1 : Int32))), (1, am_I (v1 + (xA x 49 0 (Int32.toNatClampNeg v2)))), (0, am_R 32 i0)], ([], (z, x)))) rfl ?_
      refine to_fg [2, 1, 0] (lv' := [(0, am_R 32 i0), (1, am_I (v1 + (xA x 49 0 (Int32.toNatClampNeg v2)))), (2, am_I (v2 + (1 : Int32)))]) rfl ?_
      exact ih i0 (v1 + (xA x 49 0 (Int32.toNatClampNeg v2))) (v2 + (1 : Int32)) x
def f_X9_gotAll (n : Nat) (i0 : Nat) (x : am_X) : Option (Int32 × am_X) := b_X9_gotAll_4 n n i0 (0 : Int32) (0 : Int32) x
theorem t_X9_gotAll {n : Nat} {d : Nat} {i0 : Nat} {x z : am_X} {q : Int32 × am_X} (hd : 1 ≤ d) (h : f_X9_gotAll n i0 x = some q) : am_Ev am_PR d 171 [am_R 32 i0] (z, x) (cvI1 z q) := by
  obtain ⟨d, rfl⟩ : ∃ e, d = e + 1 := ⟨d - 1, by omega⟩
  refine to_ev (P := (am_tab pX9_gotAll)) rfl (lv := [(0, am_R 32 i0)]) rfl ?_ q h
  unfold f_X9_gotAll
  refine to_go 4 (pc' := 4) (a' := ([(2, am_I (0 : Int32)), (1, am_I (0 : Int32)), (0, am_R 32 i0)], ([], (z, x)))) rfl ?_
  refine to_fg [2, 1, 0] (lv' := [(0, am_R 32 i0), (1, am_I (0 : Int32)), (2, am_I (0 : Int32))]) rfl ?_
  exact tb_X9_gotAll_4 (by omega)  n i0 (0 : Int32) (0 : Int32) x
def b_X9_yearsNow_117 (n : Nat) (h16 : Nat → Int32 → Int32 → Int32 → Int32 → am_X → Option (Int32 × am_X)) (h25 : Nat → Int32 → Int32 → Int32 → Int32 → Int32 → am_X → Option (Int32 × am_X)) (i0 : Nat) (v1 : Int32) (v3 : Int32) (v4 : Int32) (v5 : Int32) (v6 : Int32) (x : am_X) : Option (Int32 × am_X) := h25 i0 v1 v3 v4 v5 (v6 + (1 : Int32)) x
theorem tb_X9_yearsNow_117 {n : Nat} {h16 : Nat → Int32 → Int32 → Int32 → Int32 → am_X → Option (Int32 × am_X)} {h25 : Nat → Int32 → Int32 → Int32 → Int32 → Int32 → am_X → Option (Int32 × am_X)} {d : Nat} {z : am_X} (hd : 5 ≤ d) (hh16 : ∀ (i0 : Nat) (v1 : Int32) (v3 : Int32) (v4 : Int32) (v5 : Int32) (x : am_X), am_To d (am_tab pX9_yearsNow) 16 ([(0, am_R 32 i0), (1, am_I v1), (3, am_I v3), (4, am_I v4), (5, am_I v5)], ([], (z, x))) (cvI1 z) (h16 i0 v1 v3 v4 v5 x)) (hh25 : ∀ (i0 : Nat) (v1 : Int32) (v3 : Int32) (v4 : Int32) (v5 : Int32) (v6 : Int32) (x : am_X), am_To d (am_tab pX9_yearsNow) 25 ([(0, am_R 32 i0), (1, am_I v1), (3, am_I v3), (4, am_I v4), (5, am_I v5), (6, am_I v6)], ([], (z, x))) (cvI1 z) (h25 i0 v1 v3 v4 v5 v6 x)) (i0 : Nat) (v1 : Int32) (v3 : Int32) (v4 : Int32) (v5 : Int32) (v6 : Int32) (x : am_X) : am_To d (am_tab pX9_yearsNow) 117 ([(0, am_R 32 i0), (1, am_I v1), (3, am_I v3), (4, am_I v4), (5, am_I v5), (6, am_I v6)], ([], (z, x))) (cvI1 z) (b_X9_yearsNow_117 n h16 h25 i0 v1 v3 v4 v5 v6 x) := by
  unfold b_X9_yearsNow_117
  refine to_go 2 (pc' := 25) (a' := ([(6, am_I (v6 + (1 : Int32))), (0, am_R 32 i0), (1, am_I v1), (3, am_I v3), (4, am_I v4), (5, am_I v5)], ([], (z, x)))) rfl ?_
  refine to_fg [1, 2, 3, 4, 5, 0] (lv' := [(0, am_R 32 i0), (1, am_I v1), (3, am_I v3), (4, am_I v4), (5, am_I v5), (6, am_I (v6 + (1 : Int32)))]) rfl ?_
  exact hh25 i0 v1 v3 v4 v5 (v6 + (1 : Int32)) x
def b_X9_yearsNow_114 (n : Nat) (h16 : Nat → Int32 → Int32 → Int32 → Int32 → am_X → Option (Int32 × am_X)) (h25 : Nat → Int32 → Int32 → Int32 → Int32 → Int32 → am_X → Option (Int32 × am_X)) (i0 : Nat) (v1 : Int32) (v3 : Int32) (v5 : Int32) (v6 : Int32) (s0 : Int32) (s1 : Int32) (x : am_X) : Option (Int32 × am_X) := b_X9_yearsNow_117 n h16 h25 i0 v1 v3 (s0 + s1) v5 v6 x
theorem tb_X9_yearsNow_114 {n : Nat} {h16 : Nat → Int32 → Int32 → Int32 → Int32 → am_X → Option (Int32 × am_X)} {h25 : Nat → Int32 → Int32 → Int32 → Int32 → Int32 → am_X → Option (Int32 × am_X)} {d : Nat} {z : am_X} (hd : 5 ≤ d) (hh16 : ∀ (i0 : Nat) (v1 : Int32) (v3 : Int32) (v4 : Int32) (v5 : Int32) (x : am_X), am_To d (am_tab pX9_yearsNow) 16 ([(0, am_R 32 i0), (1, am_I v1), (3, am_I v3), (4, am_I v4), (5, am_I v5)], ([], (z, x))) (cvI1 z) (h16 i0 v1 v3 v4 v5 x)) (hh25 : ∀ (i0 : Nat) (v1 : Int32) (v3 : Int32) (v4 : Int32) (v5 : Int32) (v6 : Int32) (x : am_X), am_To d (am_tab pX9_yearsNow) 25 ([(0, am_R 32 i0), (1, am_I v1), (3, am_I v3), (4, am_I v4), (5, am_I v5), (6, am_I v6)], ([], (z, x))) (cvI1 z) (h25 i0 v1 v3 v4 v5 v6 x)) (i0 : Nat) (v1 : Int32) (v3 : Int32) (v5 : Int32) (v6 : Int32) (s0 : Int32) (s1 : Int32) (x : am_X) : am_To d (am_tab pX9_yearsNow) 114 ([(0, am_R 32 i0), (1, am_I v1), (3, am_I v3), (5, am_I v5), (6, am_I v6)], ([am_I s1, am_I s0], (z, x))) (cvI1 z) (b_X9_yearsNow_114 n h16 h25 i0 v1 v3 v5 v6 s0 s1 x) := by
  unfold b_X9_yearsNow_114
  refine to_go 2 (pc' := 117) (a' := ([(4, am_I (s0 + s1)), (0, am_R 32 i0), (1, am_I v1), (3, am_I v3), (5, am_I v5), (6, am_I v6)], ([], (z, x)))) rfl ?_
  refine to_fg [1, 2, 3, 0, 4, 5] (lv' := [(0, am_R 32 i0), (1, am_I v1), (3, am_I v3), (4, am_I (s0 + s1)), (5, am_I v5), (6, am_I v6)]) rfl ?_
  exact tb_X9_yearsNow_117 (by omega) hh16 hh25  i0 v1 v3 (s0 + s1) v5 v6 x
def b_X9_yearsNow_60 (n : Nat) (h16 : Nat → Int32 → Int32 → Int32 → Int32 → am_X → Option (Int32 × am_X)) (h25 : Nat → Int32 → Int32 → Int32 → Int32 → Int32 → am_X → Option (Int32 × am_X)) (i0 : Nat) (v1 : Int32) (v3 : Int32) (v4 : Int32) (v5 : Int32) (v6 : Int32) (s0 : Int32) (x : am_X) : Option (Int32 × am_X) := if s0 = (9 : Int32) then (b_X9_yearsNow_117 n h16 h25 i0 v1 v3 v4 v5 v6 x) else ((f_X9_mayNow n i0 v6 s0 x).bind fun q2 => if q2.1 = 0 then (b_X9_yearsNow_117 n h16 h25 i0 v1 v3 v4 v5 v6 q2.2) else ((f_X9_doAct n i0 v6 s0 (xF q2.2 32 6 i0) q2.2).bind fun q4 => if am_inB v6 5 = true then (if s0 < (10 : Int32) then (b_X9_yearsNow_114 n h16 h25 i0 v1 v3 v5 v6 v4 (0 : Int32) (sA q4 51 0 (Int32.toNatClampNeg v6) (1 : Int32))) else (b_X9_yearsNow_114 n h16 h25 i0 v1 v3 v5 v6 v4 (1 : Int32) (sA q4 51 0 (Int32.toNatClampNeg v6) (1 : Int32)))) else none))
theorem tb_X9_yearsNow_60 {n : Nat} {h16 : Nat → Int32 → Int32 → Int32 → Int32 → am_X → Option (Int32 × am_X)} {h25 : Nat → Int32 → Int32 → Int32 → Int32 → Int32 → am_X → Option (Int32 × am_X)} {d : Nat} {z : am_X} (hd : 5 ≤ d) (hh16 : ∀ (i0 : Nat) (v1 : Int32) (v3 : Int32) (v4 : Int32) (v5 : Int32) (x : am_X), am_To d (am_tab pX9_yearsNow) 16 ([(0, am_R 32 i0), (1, am_I v1), (3, am_I v3), (4, am_I v4), (5, am_I v5)], ([], (z, x))) (cvI1 z) (h16 i0 v1 v3 v4 v5 x)) (hh25 : ∀ (i0 : Nat) (v1 : Int32) (v3 : Int32) (v4 : Int32) (v5 : Int32) (v6 : Int32) (x : am_X), am_To d (am_tab pX9_yearsNow) 25 ([(0, am_R 32 i0), (1, am_I v1), (3, am_I v3), (4, am_I v4), (5, am_I v5), (6, am_I v6)], ([], (z, x))) (cvI1 z) (h25 i0 v1 v3 v4 v5 v6 x)) (i0 : Nat) (v1 : Int32) (v3 : Int32) (v4 : Int32) (v5 : Int32) (v6 : Int32) (s0 : Int32) (x : am_X) : am_To d (am_tab pX9_yearsNow) 60 ([(0, am_R 32 i0), (1, am_I v1), (3, am_I v3), (4, am_I v4), (5, am_I v5), (6, am_I v6)], ([am_I s0], (z, x))) (cvI1 z) (b_X9_yearsNow_60 n h16 h25 i0 v1 v3 v4 v5 v6 s0 x) := by
  unfold b_X9_yearsNow_60
  refine to_if 4 (c := s0 = (9 : Int32)) (p1 := 117) (p2 := 69) (a' := ([(7, am_I s0), (0, am_R 32 i0), (1, am_I v1), (3, am_I v3), (4, am_I v4), (5, am_I v5), (6, am_I v6)], ([], (z, x)))) rfl (fun c_1 => ?_) (fun c_1 => ?_)
  · refine to_fg [1, 2, 3, 4, 5, 6] (lv' := [(0, am_R 32 i0), (1, am_I v1), (3, am_I v3), (4, am_I v4), (5, am_I v5), (6, am_I v6)]) rfl ?_
    exact tb_X9_yearsNow_117 (by omega) hh16 hh25  i0 v1 v3 v4 v5 v6 x
  · refine to_cl 4 (lv := [(7, am_I s0), (0, am_R 32 i0), (1, am_I v1), (3, am_I v3), (4, am_I v4), (5, am_I v5), (6, am_I v6)]) (st := []) (M := (z, x)) (cb := (cvI1 z)) rfl (fun q hq => t_X9_mayNow (by omega) hq) (fun q2 => ?_)
    refine to_if 1 (c := q2.1 = 0) (p1 := 117) (p2 := 80) (a' := ([(7, am_I s0), (0, am_R 32 i0), (1, am_I v1), (3, am_I v3), (4, am_I v4), (5, am_I v5), (6, am_I v6)], ([], (z, q2.2)))) rfl (fun c_3 => ?_) (fun c_3 => ?_)
    · refine to_fg [1, 2, 3, 4, 5, 6] (lv' := [(0, am_R 32 i0), (1, am_I v1), (3, am_I v3), (4, am_I v4), (5, am_I v5), (6, am_I v6)]) rfl ?_
      exact tb_X9_yearsNow_117 (by omega) hh16 hh25  i0 v1 v3 v4 v5 v6 q2.2
    · refine to_go 4 (pc' := 86) (a' := ([(7, am_I s0), (0, am_R 32 i0), (1, am_I v1), (3, am_I v3), (4, am_I v4), (5, am_I v5), (6, am_I v6)], ([am_R 32 i0, am_I s0, am_I v6, am_R 32 i0], (z, q2.2)))) rfl ?_
      refine to_cl 2 (lv := [(7, am_I s0), (0, am_R 32 i0), (1, am_I v1), (3, am_I v3), (4, am_I v4), (5, am_I v5), (6, am_I v6)]) (st := []) (M := (z, q2.2)) (cb := (cvV1 z)) rfl (fun q hq => t_X9_doAct (by omega) hq) (fun q4 => ?_)
      refine to_go 4 (pc' := 99) (a' := ([(7, am_I s0), (0, am_R 32 i0), (1, am_I v1), (3, am_I v3), (4, am_I v4), (5, am_I v5), (6, am_I v6)], ([am_I (1 : Int32), am_I v6, am_R 51 0], (z, q4)))) rfl ?_
      refine to_gd 0 99 (c := am_inB v6 5 = true) (pc' := 100) (a' := ([(7, am_I s0), (0, am_R 32 i0), (1, am_I v1), (3, am_I v3), (4, am_I v4), (5, am_I v5), (6, am_I v6)], ([], (z, (sA q4 51 0 (Int32.toNatClampNeg v6) (1 : Int32)))))) rfl rfl (fun c_5 => ?_)
      refine to_if 4 (c := s0 < (10 : Int32)) (p1 := 113) (p2 := 109) (a' := ([(7, am_I s0), (0, am_R 32 i0), (1, am_I v1), (3, am_I v3), (4, am_I v4), (5, am_I v5), (6, am_I v6)], ([am_I v4], (z, (sA q4 51 0 (Int32.toNatClampNeg v6) (1 : Int32)))))) rfl (fun c_6 => ?_) (fun c_6 => ?_)
      · refine to_go 1 (pc' := 114) (a' := ([(7, am_I s0), (0, am_R 32 i0), (1, am_I v1), (3, am_I v3), (4, am_I v4), (5, am_I v5), (6, am_I v6)], ([am_I (0 : Int32), am_I v4], (z, (sA q4 51 0 (Int32.toNatClampNeg v6) (1 : Int32)))))) rfl ?_
        refine to_fg [1, 2, 3, 5, 6] (lv' := [(0, am_R 32 i0), (1, am_I v1), (3, am_I v3), (5, am_I v5), (6, am_I v6)]) rfl ?_
        exact tb_X9_yearsNow_114 (by omega) hh16 hh25  i0 v1 v3 v5 v6 v4 (0 : Int32) (sA q4 51 0 (Int32.toNatClampNeg v6) (1 : Int32))
      · refine to_go 2 (pc' := 114) (a' := ([(7, am_I s0), (0, am_R 32 i0), (1, am_I v1), (3, am_I v3), (4, am_I v4), (5, am_I v5), (6, am_I v6)], ([am_I (1 : Int32), am_I v4], (z, (sA q4 51 0 (Int32.toNatClampNeg v6) (1 : Int32)))))) rfl ?_
        refine to_fg [1, 2, 3, 5, 6] (lv' := [(0, am_R 32 i0), (1, am_I v1), (3, am_I v3), (5, am_I v5), (6, am_I v6)]) rfl ?_
        exact tb_X9_yearsNow_114 (by omega) hh16 hh25  i0 v1 v3 v5 v6 v4 (1 : Int32) (sA q4 51 0 (Int32.toNatClampNeg v6) (1 : Int32))
def b_X9_yearsNow_25 (n : Nat) (h16 : Nat → Int32 → Int32 → Int32 → Int32 → am_X → Option (Int32 × am_X)) : Nat → Nat → Int32 → Int32 → Int32 → Int32 → Int32 → am_X → Option (Int32 × am_X)
  | 0, _, _, _, _, _, _, _ => none
  | k + 1, i0, v1, v3, v4, v5, v6, x => if (xF x 32 7 i0) ≤ v6 then ((f_X9_goWeek n i0 x).bind fun q2 => h16 i0 v1 v3 v4 (v5 + (1 : Int32)) q2) else (if am_inB v6 5 = true then (if ¬ (xA x 52 0 (Int32.toNatClampNeg v6)) = (1 : Int32) then ((f_X9_draw n i0 (12 : Int32) x).bind fun q5 => (f_X9_actBy n q5.1 (1 : Int32) q5.2).bind fun q6 => b_X9_yearsNow_60 n h16 (b_X9_yearsNow_25 n h16 k) i0 v1 v3 v4 v5 v6 q6.1 q6.2) else (b_X9_yearsNow_60 n h16 (b_X9_yearsNow_25 n h16 k) i0 v1 v3 v4 v5 v6 (9 : Int32) x)) else none)
theorem tb_X9_yearsNow_25 {n : Nat} {h16 : Nat → Int32 → Int32 → Int32 → Int32 → am_X → Option (Int32 × am_X)} {d : Nat} {z : am_X} (hd : 5 ≤ d) (hh16 : ∀ (i0 : Nat) (v1 : Int32) (v3 : Int32) (v4 : Int32) (v5 : Int32) (x : am_X), am_To d (am_tab pX9_yearsNow) 16 ([(0, am_R 32 i0), (1, am_I v1), (3, am_I v3), (4, am_I v4), (5, am_I v5)], ([], (z, x))) (cvI1 z) (h16 i0 v1 v3 v4 v5 x)) : ∀ (k : Nat) (i0 : Nat) (v1 : Int32) (v3 : Int32) (v4 : Int32) (v5 : Int32) (v6 : Int32) (x : am_X), am_To d (am_tab pX9_yearsNow) 25 ([(0, am_R 32 i0), (1, am_I v1), (3, am_I v3), (4, am_I v4), (5, am_I v5), (6, am_I v6)], ([], (z, x))) (cvI1 z) (b_X9_yearsNow_25 n h16 k i0 v1 v3 v4 v5 v6 x) := by
  intro k
  induction k with
  | zero =>
    intro i0 v1 v3 v4 v5 v6 x
    exact to_0
  | succ k ih =>
    intro i0 v1 v3 v4 v5 v6 x
    rw [b_X9_yearsNow_25]
    refine to_if 4 (c := (xF x 32 7 i0) ≤ v6) (p1 := 123) (p2 := 34) (a' := ([(0, am_R 32 i0), (1, am_I v1), (3, am_I v3), (4, am_I v4), (5, am_I v5), (6, am_I v6)], ([], (z, x)))) rfl (fun c_1 => ?_) (fun c_1 => ?_)
    · refine to_cl 2 (lv := [(0, am_R 32 i0), (1, am_I v1), (3, am_I v3), (4, am_I v4), (5, am_I v5), (6, am_I v6)]) (st := []) (M := (z, x)) (cb := (cvV1 z)) rfl (fun q hq => t_X9_goWeek (by omega) hq) (fun q2 => ?_)
      refine to_go 2 (pc' := 16) (a' := ([(5, am_I (v5 + (1 : Int32))), (0, am_R 32 i0), (1, am_I v1), (3, am_I v3), (4, am_I v4), (6, am_I v6)], ([], (z, q2)))) rfl ?_
      refine to_fg [1, 2, 3, 4, 0] (lv' := [(0, am_R 32 i0), (1, am_I v1), (3, am_I v3), (4, am_I v4), (5, am_I (v5 + (1 : Int32)))]) rfl ?_
      exact hh16 i0 v1 v3 v4 (v5 + (1 : Int32)) q2
    · refine to_gd 3 40 (c := am_inB v6 5 = true) (pc' := 41) (a' := ([(0, am_R 32 i0), (1, am_I v1), (3, am_I v3), (4, am_I v4), (5, am_I v5), (6, am_I v6)], ([am_I (xA x 52 0 (Int32.toNatClampNeg v6))], (z, x)))) rfl rfl (fun c_3 => ?_)
      refine to_if 2 (c := ¬ (xA x 52 0 (Int32.toNatClampNeg v6)) = (1 : Int32)) (p1 := 50) (p2 := 45) (a' := ([(0, am_R 32 i0), (1, am_I v1), (3, am_I v3), (4, am_I v4), (5, am_I v5), (6, am_I v6)], ([], (z, x)))) rfl (fun c_4 => ?_) (fun c_4 => ?_)
      · refine to_cl 3 (lv := [(0, am_R 32 i0), (1, am_I v1), (3, am_I v3), (4, am_I v4), (5, am_I v5), (6, am_I v6)]) (st := []) (M := (z, x)) (cb := (cvI1 z)) rfl (fun q hq => t_X9_draw (by omega) hq) (fun q5 => ?_)
        refine to_cl 2 (lv := [(0, am_R 32 i0), (1, am_I v1), (3, am_I v3), (4, am_I v4), (5, am_I v5), (6, am_I v6)]) (st := []) (M := (z, q5.2)) (cb := (cvI1 z)) rfl (fun q hq => t_X9_actBy (by omega) hq) (fun q6 => ?_)
        refine to_fg [0, 1, 2, 3, 4, 5] (lv' := [(0, am_R 32 i0), (1, am_I v1), (3, am_I v3), (4, am_I v4), (5, am_I v5), (6, am_I v6)]) rfl ?_
        exact tb_X9_yearsNow_60 (by omega) hh16 ih  i0 v1 v3 v4 v5 v6 q6.1 q6.2
      · refine to_go 2 (pc' := 60) (a' := ([(0, am_R 32 i0), (1, am_I v1), (3, am_I v3), (4, am_I v4), (5, am_I v5), (6, am_I v6)], ([am_I (9 : Int32)], (z, x)))) rfl ?_
        refine to_fg [0, 1, 2, 3, 4, 5] (lv' := [(0, am_R 32 i0), (1, am_I v1), (3, am_I v3), (4, am_I v4), (5, am_I v5), (6, am_I v6)]) rfl ?_
        exact tb_X9_yearsNow_60 (by omega) hh16 ih  i0 v1 v3 v4 v5 v6 (9 : Int32) x
def b_X9_yearsNow_171 (n : Nat) (i0 : Nat) (s0 : Int32) (x : am_X) : Option (Int32 × am_X) := (f_X9_back n i0 x).bind fun q1 => some (s0, q1)
theorem tb_X9_yearsNow_171 {n : Nat} {d : Nat} {z : am_X} (hd : 5 ≤ d) (i0 : Nat) (s0 : Int32) (x : am_X) : am_To d (am_tab pX9_yearsNow) 171 ([(0, am_R 32 i0)], ([am_I s0], (z, x))) (cvI1 z) (b_X9_yearsNow_171 n i0 s0 x) := by
  unfold b_X9_yearsNow_171
  refine to_cl 3 (lv := [(5, am_I s0), (0, am_R 32 i0)]) (st := []) (M := (z, x)) (cb := (cvV1 z)) rfl (fun q hq => t_X9_back (by omega) hq) (fun q1 => ?_)
  exact to_rt 2 (r := (s0, q1)) rfl
def b_X9_yearsNow_16 (n : Nat) : Nat → Nat → Int32 → Int32 → Int32 → Int32 → am_X → Option (Int32 × am_X)
  | 0, _, _, _, _, _, _ => none
  | k + 1, i0, v1, v3, v4, v5, x => if v1 ≤ v5 then (if ¬ v3 = 0 then (if ¬ v3 = (1 : Int32) then (if ¬ v3 = (2 : Int32) then (b_X9_yearsNow_171 n i0 (Int64.toInt32 (xL x 44)) x) else (b_X9_yearsNow_171 n i0 v4 x)) else ((f_X9_owesAll n i0 x).bind fun q5 => b_X9_yearsNow_171 n i0 q5.1 q5.2)) else ((f_X9_gotAll n i0 x).bind fun q6 => b_X9_yearsNow_171 n i0 q6.1 q6.2)) else (b_X9_yearsNow_25 n (b_X9_yearsNow_16 n k) n i0 v1 v3 v4 v5 (0 : Int32) x)
theorem tb_X9_yearsNow_16 {n : Nat} {d : Nat} {z : am_X} (hd : 5 ≤ d) : ∀ (k : Nat) (i0 : Nat) (v1 : Int32) (v3 : Int32) (v4 : Int32) (v5 : Int32) (x : am_X), am_To d (am_tab pX9_yearsNow) 16 ([(0, am_R 32 i0), (1, am_I v1), (3, am_I v3), (4, am_I v4), (5, am_I v5)], ([], (z, x))) (cvI1 z) (b_X9_yearsNow_16 n k i0 v1 v3 v4 v5 x) := by
  intro k
  induction k with
  | zero =>
    intro i0 v1 v3 v4 v5 x
    exact to_0
  | succ k ih =>
    intro i0 v1 v3 v4 v5 x
    rw [b_X9_yearsNow_16]
    refine to_if 3 (c := v1 ≤ v5) (p1 := 133) (p2 := 22) (a' := ([(0, am_R 32 i0), (1, am_I v1), (3, am_I v3), (4, am_I v4), (5, am_I v5)], ([], (z, x)))) rfl (fun c_1 => ?_) (fun c_1 => ?_)
    · refine to_if 2 (c := ¬ v3 = 0) (p1 := 144) (p2 := 137) (a' := ([(0, am_R 32 i0), (1, am_I v1), (3, am_I v3), (4, am_I v4), (5, am_I v5)], ([], (z, x)))) rfl (fun c_2 => ?_) (fun c_2 => ?_)
      · refine to_if 3 (c := ¬ v3 = (1 : Int32)) (p1 := 156) (p2 := 149) (a' := ([(0, am_R 32 i0), (1, am_I v1), (3, am_I v3), (4, am_I v4), (5, am_I v5)], ([], (z, x)))) rfl (fun c_3 => ?_) (fun c_3 => ?_)
        · refine to_if 3 (c := ¬ v3 = (2 : Int32)) (p1 := 166) (p2 := 161) (a' := ([(0, am_R 32 i0), (1, am_I v1), (3, am_I v3), (4, am_I v4), (5, am_I v5)], ([], (z, x)))) rfl (fun c_4 => ?_) (fun c_4 => ?_)
          · refine to_go 3 (pc' := 171) (a' := ([(0, am_R 32 i0), (1, am_I v1), (3, am_I v3), (4, am_I v4), (5, am_I v5)], ([am_I (Int64.toInt32 (xL x 44))], (z, x)))) rfl ?_
            refine to_fg [0] (lv' := [(0, am_R 32 i0)]) rfl ?_
            exact tb_X9_yearsNow_171 (by omega)  i0 (Int64.toInt32 (xL x 44)) x
          · refine to_go 2 (pc' := 171) (a' := ([(0, am_R 32 i0), (1, am_I v1), (3, am_I v3), (4, am_I v4), (5, am_I v5)], ([am_I v4], (z, x)))) rfl ?_
            refine to_fg [0] (lv' := [(0, am_R 32 i0)]) rfl ?_
            exact tb_X9_yearsNow_171 (by omega)  i0 v4 x
        · refine to_cl 2 (lv := [(0, am_R 32 i0), (1, am_I v1), (3, am_I v3), (4, am_I v4), (5, am_I v5)]) (st := []) (M := (z, x)) (cb := (cvI1 z)) rfl (fun q hq => t_X9_owesAll (by omega) hq) (fun q5 => ?_)
          refine to_go 1 (pc' := 171) (a' := ([(0, am_R 32 i0), (1, am_I v1), (3, am_I v3), (4, am_I v4), (5, am_I v5)], ([am_I q5.1], (z, q5.2)))) rfl ?_
          refine to_fg [0] (lv' := [(0, am_R 32 i0)]) rfl ?_
          exact tb_X9_yearsNow_171 (by omega)  i0 q5.1 q5.2
      · refine to_cl 2 (lv := [(0, am_R 32 i0), (1, am_I v1), (3, am_I v3), (4, am_I v4), (5, am_I v5)]) (st := []) (M := (z, x)) (cb := (cvI1 z)) rfl (fun q hq => t_X9_gotAll (by omega) hq) (fun q6 => ?_)
        refine to_go 1 (pc' := 171) (a' := ([(0, am_R 32 i0), (1, am_I v1), (3, am_I v3), (4, am_I v4), (5, am_I v5)], ([am_I q6.1], (z, q6.2)))) rfl ?_
        refine to_fg [0] (lv' := [(0, am_R 32 i0)]) rfl ?_
        exact tb_X9_yearsNow_171 (by omega)  i0 q6.1 q6.2
    · refine to_go 2 (pc' := 25) (a' := ([(6, am_I (0 : Int32)), (0, am_R 32 i0), (1, am_I v1), (3, am_I v3), (4, am_I v4), (5, am_I v5)], ([], (z, x)))) rfl ?_
      refine to_fg [1, 2, 3, 4, 5, 0] (lv' := [(0, am_R 32 i0), (1, am_I v1), (3, am_I v3), (4, am_I v4), (5, am_I v5), (6, am_I (0 : Int32))]) rfl ?_
      exact tb_X9_yearsNow_25 (by omega) ih  n i0 v1 v3 v4 v5 (0 : Int32) x
def f_X9_yearsNow (n : Nat) (i0 : Nat) (v1 : Int32) (v2 : Int32) (v3 : Int32) (x : am_X) : Option (Int32 × am_X) := (f_X9_save n i0 x).bind fun q1 => b_X9_yearsNow_16 n n i0 v1 v3 (0 : Int32) (0 : Int32) (sL q1 44 (Int32.toInt64 v2))
theorem t_X9_yearsNow {n : Nat} {d : Nat} {i0 : Nat} {v1 : Int32} {v2 : Int32} {v3 : Int32} {x z : am_X} {q : Int32 × am_X} (hd : 6 ≤ d) (h : f_X9_yearsNow n i0 v1 v2 v3 x = some q) : am_Ev am_PR d 172 [am_R 32 i0, am_I v1, am_I v2, am_I v3] (z, x) (cvI1 z q) := by
  obtain ⟨d, rfl⟩ : ∃ e, d = e + 1 := ⟨d - 1, by omega⟩
  refine to_ev (P := (am_tab pX9_yearsNow)) rfl (lv := [(0, am_R 32 i0), (1, am_I v1), (2, am_I v2), (3, am_I v3)]) rfl ?_ q h
  unfold f_X9_yearsNow
  refine to_cl 2 (lv := [(0, am_R 32 i0), (1, am_I v1), (2, am_I v2), (3, am_I v3)]) (st := []) (M := (z, x)) (cb := (cvV1 z)) rfl (fun q hq => t_X9_save (by omega) hq) (fun q1 => ?_)
  refine to_go 4 (pc' := 10) (a' := ([(0, am_R 32 i0), (1, am_I v1), (2, am_I v2), (3, am_I v3)], ([], (z, (sL q1 44 (Int32.toInt64 v2)))))) rfl ?_
  refine to_go 4 (pc' := 16) (a' := ([(5, am_I (0 : Int32)), (4, am_I (0 : Int32)), (0, am_R 32 i0), (1, am_I v1), (2, am_I v2), (3, am_I v3)], ([], (z, (sL q1 44 (Int32.toInt64 v2)))))) rfl ?_
  refine to_fg [2, 3, 5, 1, 0] (lv' := [(0, am_R 32 i0), (1, am_I v1), (3, am_I v3), (4, am_I (0 : Int32)), (5, am_I (0 : Int32))]) rfl ?_
  exact tb_X9_yearsNow_16 (by omega)  n i0 v1 v3 (0 : Int32) (0 : Int32) (sL q1 44 (Int32.toInt64 v2))
