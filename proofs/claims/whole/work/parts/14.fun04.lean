def b_X8_weeksOfServing_46 (n : Nat) : Nat → Nat → Int32 → Int32 → Int32 → Int32 → am_X → Option (Int32 × am_X)
  | 0, _, _, _, _, _, _ => none
  | k + 1, i0, v2, v3, v4, v5, x => if (9 : Int32) < v5 then (some ((-1 : Int32), x)) else ((f_X3_termOf n 0 v2 x).bind fun q2 => (f_X6_isCovered n 12 v2 q2.1 (0 : Int32) 0 q2.2).bind fun q3 => if q3.1 = 0 then ((f_X6_does n 12 v3 0 v4 q3.2).bind fun q5 => (f_X6_enter n 12 (v4 + (1 : Int32)) 0 q5).bind fun q6 => b_X8_weeksOfServing_46 n k i0 v2 v3 (v4 + (1 : Int32)) (v5 + (1 : Int32)) q6) else (some (v5, q3.2)))
theorem tb_X8_weeksOfServing_46 {n : Nat} {d : Nat} {z : am_X} (hd : 4 ≤ d) : ∀ (k : Nat) (i0 : Nat) (v2 : Int32) (v3 : Int32) (v4 : Int32) (v5 : Int32) (x : am_X), am_To d (am_tab pX8_weeksOfServing) 46 ([(0, am_R 0 i0), (2, am_I v2), (3, am_I v3), (4, am_I v4), (5, am_I v5)], ([], (x, z))) (cvI0 z) (b_X8_weeksOfServing_46 n k i0 v2 v3 v4 v5 x) := by
  intro k
  induction k with
  | zero =>
    intro i0 v2 v3 v4 v5 x
    exact to_0
  | succ k ih =>
    intro i0 v2 v3 v4 v5 x
    rw [b_X8_weeksOfServing_46]
    refine to_if 3 (c := (9 : Int32) < v5) (p1 := 116) (p2 := 53) (a' := ([(0, am_R 0 i0), (2, am_I v2), (3, am_I v3), (4, am_I v4), (5, am_I v5)], ([], (x, z)))) rfl (fun c_1 => ?_) (fun c_1 => ?_)
    · exact to_rt 2 (r := ((-1 : Int32), x)) rfl
    · refine to_go 4 (pc' := 59) (a' := ([(0, am_R 0 i0), (2, am_I v2), (3, am_I v3), (4, am_I v4), (5, am_I v5)], ([am_R 0 i0, am_I v2, am_R 4 12], (x, z)))) rfl ?_
      refine to_cl 3 (lv := [(0, am_R 0 i0), (2, am_I v2), (3, am_I v3), (4, am_I v4), (5, am_I v5)]) (st := [am_I v2, am_R 4 12]) (M := (x, z)) (cb := (cvI0 z)) rfl (fun q hq => t_X3_termOf (by omega) hq) (fun q2 => ?_)
      refine to_cl 4 (lv := [(0, am_R 0 i0), (2, am_I v2), (3, am_I v3), (4, am_I v4), (5, am_I v5)]) (st := []) (M := (q2.2, z)) (cb := (cvI0 z)) rfl (fun q hq => t_X6_isCovered (by omega) hq) (fun q3 => ?_)
      refine to_if 1 (c := q3.1 = 0) (p1 := 80) (p2 := 77) (a' := ([(0, am_R 0 i0), (2, am_I v2), (3, am_I v3), (4, am_I v4), (5, am_I v5)], ([], (q3.2, z)))) rfl (fun c_4 => ?_) (fun c_4 => ?_)
      · refine to_go 4 (pc' := 86) (a' := ([(0, am_R 0 i0), (2, am_I v2), (3, am_I v3), (4, am_I v4), (5, am_I v5)], ([am_R 0 i0, am_I v3, am_R 4 12], (q3.2, z)))) rfl ?_
        refine to_cl 3 (lv := [(0, am_R 0 i0), (2, am_I v2), (3, am_I v3), (4, am_I v4), (5, am_I v5)]) (st := []) (M := (q3.2, z)) (cb := (cvV0 z)) rfl (fun q hq => t_X6_does (by omega) hq) (fun q5 => ?_)
        refine to_go 4 (pc' := 103) (a' := ([(4, am_I (v4 + (1 : Int32))), (0, am_R 0 i0), (2, am_I v2), (3, am_I v3), (5, am_I v5)], ([am_I (v4 + (1 : Int32)), am_R 4 12], (q5, z)))) rfl ?_
        refine to_cl 3 (lv := [(4, am_I (v4 + (1 : Int32))), (0, am_R 0 i0), (2, am_I v2), (3, am_I v3), (5, am_I v5)]) (st := []) (M := (q5, z)) (cb := (cvV0 z)) rfl (fun q hq => t_X6_enter (by omega) hq) (fun q6 => ?_)
        refine to_go 2 (pc' := 46) (a' := ([(5, am_I (v5 + (1 : Int32))), (4, am_I (v4 + (1 : Int32))), (0, am_R 0 i0), (2, am_I v2), (3, am_I v3)], ([], (q6, z)))) rfl ?_
        refine to_fg [2, 3, 4, 1, 0] (lv' := [(0, am_R 0 i0), (2, am_I v2), (3, am_I v3), (4, am_I (v4 + (1 : Int32))), (5, am_I (v5 + (1 : Int32)))]) rfl ?_
        exact ih i0 v2 v3 (v4 + (1 : Int32)) (v5 + (1 : Int32)) q6
      · exact to_rt 2 (r := (v5, q3.2)) rfl
def b_X8_weeksOfServing_43 (n : Nat) (i0 : Nat) (v2 : Int32) (v3 : Int32) (v4 : Int32) (x : am_X) : Option (Int32 × am_X) := b_X8_weeksOfServing_46 n n i0 v2 v3 v4 (0 : Int32) x
theorem tb_X8_weeksOfServing_43 {n : Nat} {d : Nat} {z : am_X} (hd : 4 ≤ d) (i0 : Nat) (v2 : Int32) (v3 : Int32) (v4 : Int32) (x : am_X) : am_To d (am_tab pX8_weeksOfServing) 43 ([(0, am_R 0 i0), (2, am_I v2), (3, am_I v3), (4, am_I v4)], ([], (x, z))) (cvI0 z) (b_X8_weeksOfServing_43 n i0 v2 v3 v4 x) := by
  unfold b_X8_weeksOfServing_43
  refine to_go 2 (pc' := 46) (a' := ([(5, am_I (0 : Int32)), (0, am_R 0 i0), (2, am_I v2), (3, am_I v3), (4, am_I v4)], ([], (x, z)))) rfl ?_
  refine to_fg [1, 2, 3, 4, 0] (lv' := [(0, am_R 0 i0), (2, am_I v2), (3, am_I v3), (4, am_I v4), (5, am_I (0 : Int32))]) rfl ?_
  exact tb_X8_weeksOfServing_46 (by omega)  n i0 v2 v3 v4 (0 : Int32) x
def f_X8_weeksOfServing (n : Nat) (i0 : Nat) (i1 : Nat) (v2 : Int32) (v3 : Int32) (x : am_X) : Option (Int32 × am_X) := (f_X6_copy n 12 i1 x).bind fun q1 => if (xF q1 4 4 12) = 0 then (b_X8_weeksOfServing_43 n i0 v2 v3 (xF x 3 2 0) q1) else ((f_X6_enter n 12 ((xF x 3 2 0) + (1 : Int32)) 0 q1).bind fun q3 => b_X8_weeksOfServing_43 n i0 v2 v3 ((xF x 3 2 0) + (1 : Int32)) q3)
theorem t_X8_weeksOfServing {n : Nat} {d : Nat} {i0 : Nat} {i1 : Nat} {v2 : Int32} {v3 : Int32} {x z : am_X} {q : Int32 × am_X} (hd : 5 ≤ d) (h : f_X8_weeksOfServing n i0 i1 v2 v3 x = some q) : am_Ev am_PR d 100 [am_R 0 i0, am_R 4 i1, am_I v2, am_I v3] (x, z) (cvI0 z q) := by
  obtain ⟨d, rfl⟩ : ∃ e, d = e + 1 := ⟨d - 1, by omega⟩
  refine to_ev (P := (am_tab pX8_weeksOfServing)) rfl (lv := [(0, am_R 0 i0), (1, am_R 4 i1), (2, am_I v2), (3, am_I v3)]) rfl ?_ q h
  unfold f_X8_weeksOfServing
  refine to_go 4 (pc' := 9) (a' := ([(4, am_I (xF x 3 2 0)), (0, am_R 0 i0), (1, am_R 4 i1), (2, am_I v2), (3, am_I v3)], ([], (x, z)))) rfl ?_
  refine to_cl 4 (lv := [(4, am_I (xF x 3 2 0)), (0, am_R 0 i0), (1, am_R 4 i1), (2, am_I v2), (3, am_I v3)]) (st := []) (M := (x, z)) (cb := (cvV0 z)) rfl (fun q hq => t_X6_copy (by omega) hq) (fun q1 => ?_)
  refine to_if 4 (c := (xF q1 4 4 12) = 0) (p1 := 43) (p2 := 27) (a' := ([(4, am_I (xF x 3 2 0)), (0, am_R 0 i0), (1, am_R 4 i1), (2, am_I v2), (3, am_I v3)], ([], (q1, z)))) rfl (fun c_2 => ?_) (fun c_2 => ?_)
  · refine to_fg [1, 3, 4, 0] (lv' := [(0, am_R 0 i0), (2, am_I v2), (3, am_I v3), (4, am_I (xF x 3 2 0))]) rfl ?_
    exact tb_X8_weeksOfServing_43 (by omega)  i0 v2 v3 (xF x 3 2 0) q1
  · refine to_go 4 (pc' := 36) (a' := ([(4, am_I ((xF x 3 2 0) + (1 : Int32))), (0, am_R 0 i0), (1, am_R 4 i1), (2, am_I v2), (3, am_I v3)], ([am_I ((xF x 3 2 0) + (1 : Int32)), am_R 4 12], (q1, z)))) rfl ?_
    refine to_cl 3 (lv := [(4, am_I ((xF x 3 2 0) + (1 : Int32))), (0, am_R 0 i0), (1, am_R 4 i1), (2, am_I v2), (3, am_I v3)]) (st := []) (M := (q1, z)) (cb := (cvV0 z)) rfl (fun q hq => t_X6_enter (by omega) hq) (fun q3 => ?_)
    refine to_fg [1, 3, 4, 0] (lv' := [(0, am_R 0 i0), (2, am_I v2), (3, am_I v3), (4, am_I ((xF x 3 2 0) + (1 : Int32)))]) rfl ?_
    exact tb_X8_weeksOfServing_43 (by omega)  i0 v2 v3 ((xF x 3 2 0) + (1 : Int32)) q3
def b_X8_soon_106 (n : Nat) (h43 : Nat → Int32 → Int32 → Int32 → Int32 → am_X → Option (Int32 × am_X)) (i0 : Nat) (v1 : Int32) (v2 : Int32) (v3 : Int32) (v4 : Int32) (x : am_X) : Option (Int32 × am_X) := h43 i0 v1 v2 v3 (v4 + (1 : Int32)) x
theorem tb_X8_soon_106 {n : Nat} {h43 : Nat → Int32 → Int32 → Int32 → Int32 → am_X → Option (Int32 × am_X)} {d : Nat} {z : am_X} (hd : 5 ≤ d) (hh43 : ∀ (i0 : Nat) (v1 : Int32) (v2 : Int32) (v3 : Int32) (v4 : Int32) (x : am_X), am_To d (am_tab pX8_soon) 43 ([(0, am_R 0 i0), (1, am_I v1), (2, am_I v2), (3, am_I v3), (4, am_I v4)], ([], (x, z))) (cvI0 z) (h43 i0 v1 v2 v3 v4 x)) (i0 : Nat) (v1 : Int32) (v2 : Int32) (v3 : Int32) (v4 : Int32) (x : am_X) : am_To d (am_tab pX8_soon) 106 ([(0, am_R 0 i0), (1, am_I v1), (2, am_I v2), (3, am_I v3), (4, am_I v4)], ([], (x, z))) (cvI0 z) (b_X8_soon_106 n h43 i0 v1 v2 v3 v4 x) := by
  unfold b_X8_soon_106
  refine to_go 2 (pc' := 43) (a' := ([(4, am_I (v4 + (1 : Int32))), (0, am_R 0 i0), (1, am_I v1), (2, am_I v2), (3, am_I v3)], ([], (x, z)))) rfl ?_
  refine to_fg [1, 2, 3, 4, 0] (lv' := [(0, am_R 0 i0), (1, am_I v1), (2, am_I v2), (3, am_I v3), (4, am_I (v4 + (1 : Int32)))]) rfl ?_
  exact hh43 i0 v1 v2 v3 (v4 + (1 : Int32)) x
def b_X8_soon_105 (n : Nat) (h43 : Nat → Int32 → Int32 → Int32 → Int32 → am_X → Option (Int32 × am_X)) (i0 : Nat) (v1 : Int32) (v2 : Int32) (v4 : Int32) (s0 : Int32) (x : am_X) : Option (Int32 × am_X) := b_X8_soon_106 n h43 i0 v1 v2 s0 v4 x
theorem tb_X8_soon_105 {n : Nat} {h43 : Nat → Int32 → Int32 → Int32 → Int32 → am_X → Option (Int32 × am_X)} {d : Nat} {z : am_X} (hd : 5 ≤ d) (hh43 : ∀ (i0 : Nat) (v1 : Int32) (v2 : Int32) (v3 : Int32) (v4 : Int32) (x : am_X), am_To d (am_tab pX8_soon) 43 ([(0, am_R 0 i0), (1, am_I v1), (2, am_I v2), (3, am_I v3), (4, am_I v4)], ([], (x, z))) (cvI0 z) (h43 i0 v1 v2 v3 v4 x)) (i0 : Nat) (v1 : Int32) (v2 : Int32) (v4 : Int32) (s0 : Int32) (x : am_X) : am_To d (am_tab pX8_soon) 105 ([(0, am_R 0 i0), (1, am_I v1), (2, am_I v2), (4, am_I v4)], ([am_I s0], (x, z))) (cvI0 z) (b_X8_soon_105 n h43 i0 v1 v2 v4 s0 x) := by
  unfold b_X8_soon_105
  refine to_go 1 (pc' := 106) (a' := ([(3, am_I s0), (0, am_R 0 i0), (1, am_I v1), (2, am_I v2), (4, am_I v4)], ([], (x, z)))) rfl ?_
  refine to_fg [1, 2, 3, 0, 4] (lv' := [(0, am_R 0 i0), (1, am_I v1), (2, am_I v2), (3, am_I s0), (4, am_I v4)]) rfl ?_
  exact tb_X8_soon_106 (by omega) hh43  i0 v1 v2 s0 v4 x
def b_X8_soon_99 (n : Nat) (h43 : Nat → Int32 → Int32 → Int32 → Int32 → am_X → Option (Int32 × am_X)) (i0 : Nat) (v1 : Int32) (v2 : Int32) (v4 : Int32) (v5 : Int32) (x : am_X) : Option (Int32 × am_X) := b_X8_soon_105 n h43 i0 v1 v2 v4 v5 x
theorem tb_X8_soon_99 {n : Nat} {h43 : Nat → Int32 → Int32 → Int32 → Int32 → am_X → Option (Int32 × am_X)} {d : Nat} {z : am_X} (hd : 5 ≤ d) (hh43 : ∀ (i0 : Nat) (v1 : Int32) (v2 : Int32) (v3 : Int32) (v4 : Int32) (x : am_X), am_To d (am_tab pX8_soon) 43 ([(0, am_R 0 i0), (1, am_I v1), (2, am_I v2), (3, am_I v3), (4, am_I v4)], ([], (x, z))) (cvI0 z) (h43 i0 v1 v2 v3 v4 x)) (i0 : Nat) (v1 : Int32) (v2 : Int32) (v4 : Int32) (v5 : Int32) (x : am_X) : am_To d (am_tab pX8_soon) 99 ([(0, am_R 0 i0), (1, am_I v1), (2, am_I v2), (4, am_I v4), (5, am_I v5)], ([], (x, z))) (cvI0 z) (b_X8_soon_99 n h43 i0 v1 v2 v4 v5 x) := by
  unfold b_X8_soon_99
  refine to_go 2 (pc' := 105) (a' := ([(0, am_R 0 i0), (1, am_I v1), (2, am_I v2), (4, am_I v4), (5, am_I v5)], ([am_I v5], (x, z)))) rfl ?_
  refine to_fg [0, 1, 2, 3] (lv' := [(0, am_R 0 i0), (1, am_I v1), (2, am_I v2), (4, am_I v4)]) rfl ?_
  exact tb_X8_soon_105 (by omega) hh43  i0 v1 v2 v4 v5 x
def b_X8_soon_104 (n : Nat) (h43 : Nat → Int32 → Int32 → Int32 → Int32 → am_X → Option (Int32 × am_X)) (i0 : Nat) (v1 : Int32) (v2 : Int32) (v3 : Int32) (v4 : Int32) (x : am_X) : Option (Int32 × am_X) := b_X8_soon_105 n h43 i0 v1 v2 v4 v3 x
theorem tb_X8_soon_104 {n : Nat} {h43 : Nat → Int32 → Int32 → Int32 → Int32 → am_X → Option (Int32 × am_X)} {d : Nat} {z : am_X} (hd : 5 ≤ d) (hh43 : ∀ (i0 : Nat) (v1 : Int32) (v2 : Int32) (v3 : Int32) (v4 : Int32) (x : am_X), am_To d (am_tab pX8_soon) 43 ([(0, am_R 0 i0), (1, am_I v1), (2, am_I v2), (3, am_I v3), (4, am_I v4)], ([], (x, z))) (cvI0 z) (h43 i0 v1 v2 v3 v4 x)) (i0 : Nat) (v1 : Int32) (v2 : Int32) (v3 : Int32) (v4 : Int32) (x : am_X) : am_To d (am_tab pX8_soon) 104 ([(0, am_R 0 i0), (1, am_I v1), (2, am_I v2), (3, am_I v3), (4, am_I v4)], ([], (x, z))) (cvI0 z) (b_X8_soon_104 n h43 i0 v1 v2 v3 v4 x) := by
  unfold b_X8_soon_104
  refine to_go 1 (pc' := 105) (a' := ([(0, am_R 0 i0), (1, am_I v1), (2, am_I v2), (3, am_I v3), (4, am_I v4)], ([am_I v3], (x, z)))) rfl ?_
  refine to_fg [0, 1, 2, 4] (lv' := [(0, am_R 0 i0), (1, am_I v1), (2, am_I v2), (4, am_I v4)]) rfl ?_
  exact tb_X8_soon_105 (by omega) hh43  i0 v1 v2 v4 v3 x
def b_X8_soon_43 (n : Nat) : Nat → Nat → Int32 → Int32 → Int32 → Int32 → am_X → Option (Int32 × am_X)
  | 0, _, _, _, _, _, _ => none
  | k + 1, i0, v1, v2, v3, v4, x => if (3 : Int32) ≤ v4 then (some (v3, x)) else ((f_X3_sortsOf n 0 v2 x).bind fun q2 => if (q2.1 &&& ((1 : Int32) <<< (v4 &&& 31))) = 0 then (b_X8_soon_106 n (b_X8_soon_43 n k) i0 v1 v2 v3 v4 q2.2) else ((f_X7_one n 0 v1 q2.2).bind fun q4 => (f_X8_weeksOfServing n i0 q4.1 v2 v4 q4.2).bind fun q5 => if v3 = (-1 : Int32) then (b_X8_soon_99 n (b_X8_soon_43 n k) i0 v1 v2 v4 q5.1 q5.2) else (if q5.1 = (-1 : Int32) then (b_X8_soon_104 n (b_X8_soon_43 n k) i0 v1 v2 v3 v4 q5.2) else (if v3 ≤ q5.1 then (b_X8_soon_104 n (b_X8_soon_43 n k) i0 v1 v2 v3 v4 q5.2) else (b_X8_soon_99 n (b_X8_soon_43 n k) i0 v1 v2 v4 q5.1 q5.2)))))
theorem tb_X8_soon_43 {n : Nat} {d : Nat} {z : am_X} (hd : 5 ≤ d) : ∀ (k : Nat) (i0 : Nat) (v1 : Int32) (v2 : Int32) (v3 : Int32) (v4 : Int32) (x : am_X), am_To d (am_tab pX8_soon) 43 ([(0, am_R 0 i0), (1, am_I v1), (2, am_I v2), (3, am_I v3), (4, am_I v4)], ([], (x, z))) (cvI0 z) (b_X8_soon_43 n k i0 v1 v2 v3 v4 x) := by
  intro k
  induction k with
  | zero =>
    intro i0 v1 v2 v3 v4 x
    exact to_0
  | succ k ih =>
    intro i0 v1 v2 v3 v4 x
    rw [b_X8_soon_43]
    refine to_if 3 (c := (3 : Int32) ≤ v4) (p1 := 112) (p2 := 49) (a' := ([(0, am_R 0 i0), (1, am_I v1), (2, am_I v2), (3, am_I v3), (4, am_I v4)], ([], (x, z)))) rfl (fun c_1 => ?_) (fun c_1 => ?_)
    · exact to_rt 2 (r := (v3, x)) rfl
    · refine to_cl 4 (lv := [(0, am_R 0 i0), (1, am_I v1), (2, am_I v2), (3, am_I v3), (4, am_I v4)]) (st := []) (M := (x, z)) (cb := (cvI0 z)) rfl (fun q hq => t_X3_sortsOf (by omega) hq) (fun q2 => ?_)
      refine to_go 4 (pc' := 62) (a' := ([(0, am_R 0 i0), (1, am_I v1), (2, am_I v2), (3, am_I v3), (4, am_I v4)], ([am_I (q2.1 &&& ((1 : Int32) <<< (v4 &&& 31)))], (q2.2, z)))) rfl ?_
      refine to_if 1 (c := (q2.1 &&& ((1 : Int32) <<< (v4 &&& 31))) = 0) (p1 := 106) (p2 := 65) (a' := ([(0, am_R 0 i0), (1, am_I v1), (2, am_I v2), (3, am_I v3), (4, am_I v4)], ([], (q2.2, z)))) rfl (fun c_3 => ?_) (fun c_3 => ?_)
      · refine to_fg [0, 1, 2, 3, 4] (lv' := [(0, am_R 0 i0), (1, am_I v1), (2, am_I v2), (3, am_I v3), (4, am_I v4)]) rfl ?_
        exact tb_X8_soon_106 (by omega) ih  i0 v1 v2 v3 v4 q2.2
      · refine to_go 4 (pc' := 71) (a' := ([(0, am_R 0 i0), (1, am_I v1), (2, am_I v2), (3, am_I v3), (4, am_I v4)], ([am_I v1, am_R 3 0, am_R 0 i0], (q2.2, z)))) rfl ?_
        refine to_cl 1 (lv := [(0, am_R 0 i0), (1, am_I v1), (2, am_I v2), (3, am_I v3), (4, am_I v4)]) (st := [am_R 0 i0]) (M := (q2.2, z)) (cb := (cvA0 4 z)) rfl (fun q hq => t_X7_one (by omega) hq) (fun q4 => ?_)
        refine to_cl 3 (lv := [(0, am_R 0 i0), (1, am_I v1), (2, am_I v2), (3, am_I v3), (4, am_I v4)]) (st := []) (M := (q4.2, z)) (cb := (cvI0 z)) rfl (fun q hq => t_X8_weeksOfServing (by omega) hq) (fun q5 => ?_)
        refine to_if 4 (c := v3 = (-1 : Int32)) (p1 := 99) (p2 := 87) (a' := ([(5, am_I q5.1), (0, am_R 0 i0), (1, am_I v1), (2, am_I v2), (3, am_I v3), (4, am_I v4)], ([], (q5.2, z)))) rfl (fun c_6 => ?_) (fun c_6 => ?_)
        · refine to_fg [1, 2, 3, 5, 0] (lv' := [(0, am_R 0 i0), (1, am_I v1), (2, am_I v2), (4, am_I v4), (5, am_I q5.1)]) rfl ?_
          exact tb_X8_soon_99 (by omega) ih  i0 v1 v2 v4 q5.1 q5.2
        · refine to_if 3 (c := q5.1 = (-1 : Int32)) (p1 := 104) (p2 := 93) (a' := ([(5, am_I q5.1), (0, am_R 0 i0), (1, am_I v1), (2, am_I v2), (3, am_I v3), (4, am_I v4)], ([], (q5.2, z)))) rfl (fun c_7 => ?_) (fun c_7 => ?_)
          · refine to_fg [1, 2, 3, 4, 5] (lv' := [(0, am_R 0 i0), (1, am_I v1), (2, am_I v2), (3, am_I v3), (4, am_I v4)]) rfl ?_
            exact tb_X8_soon_104 (by omega) ih  i0 v1 v2 v3 v4 q5.2
          · refine to_if 3 (c := v3 ≤ q5.1) (p1 := 104) (p2 := 99) (a' := ([(5, am_I q5.1), (0, am_R 0 i0), (1, am_I v1), (2, am_I v2), (3, am_I v3), (4, am_I v4)], ([], (q5.2, z)))) rfl (fun c_8 => ?_) (fun c_8 => ?_)
            · refine to_fg [1, 2, 3, 4, 5] (lv' := [(0, am_R 0 i0), (1, am_I v1), (2, am_I v2), (3, am_I v3), (4, am_I v4)]) rfl ?_
              exact tb_X8_soon_104 (by omega) ih  i0 v1 v2 v3 v4 q5.2
            · refine to_fg [1, 2, 3, 5, 0] (lv' := [(0, am_R 0 i0), (1, am_I v1), (2, am_I v2), (4, am_I v4), (5, am_I q5.1)]) rfl ?_
              exact tb_X8_soon_99 (by omega) ih  i0 v1 v2 v4 q5.1 q5.2
def f_X8_soon (n : Nat) (i0 : Nat) (v1 : Int32) (v2 : Int32) (x : am_X) : Option (Int32 × am_X) := (f_X7_isHere n 0 v1 x).bind fun q1 => if q1.1 = 0 then (some ((-101 : Int32), q1.2)) else ((f_X8_isDeed n v2 q1.2).bind fun q3 => if ¬ q3.1 = 0 then ((f_X7_one n 0 v1 q3.2).bind fun q5 => if (xF q5.2 4 3 q5.1) ≤ 0 then (b_X8_soon_43 n n i0 v1 v2 (-1 : Int32) (0 : Int32) q5.2) else (some ((-103 : Int32), q5.2))) else (some ((-101 : Int32), q3.2)))
theorem t_X8_soon {n : Nat} {d : Nat} {i0 : Nat} {v1 : Int32} {v2 : Int32} {x z : am_X} {q : Int32 × am_X} (hd : 6 ≤ d) (h : f_X8_soon n i0 v1 v2 x = some q) : am_Ev am_PR d 87 [am_R 0 i0, am_I v1, am_I v2] (x, z) (cvI0 z q) := by
  obtain ⟨d, rfl⟩ : ∃ e, d = e + 1 := ⟨d - 1, by omega⟩
  refine to_ev (P := (am_tab pX8_soon)) rfl (lv := [(0, am_R 0 i0), (1, am_I v1), (2, am_I v2)]) rfl ?_ q h
  unfold f_X8_soon
  refine to_cl 4 (lv := [(0, am_R 0 i0), (1, am_I v1), (2, am_I v2)]) (st := []) (M := (x, z)) (cb := (cvI0 z)) rfl (fun q hq => t_X7_isHere (by omega) hq) (fun q1 => ?_)
  refine to_if 1 (c := q1.1 = 0) (p1 := 18) (p2 := 11) (a' := ([(0, am_R 0 i0), (1, am_I v1), (2, am_I v2)], ([], (q1.2, z)))) rfl (fun c_2 => ?_) (fun c_2 => ?_)
  · exact to_rt 2 (r := ((-101 : Int32), q1.2)) rfl
  · refine to_cl 2 (lv := [(0, am_R 0 i0), (1, am_I v1), (2, am_I v2)]) (st := []) (M := (q1.2, z)) (cb := (cvI0 z)) rfl (fun q hq => t_X8_isDeed (by omega) hq) (fun q3 => ?_)
    refine to_if 1 (c := ¬ q3.1 = 0) (p1 := 21) (p2 := 18) (a' := ([(0, am_R 0 i0), (1, am_I v1), (2, am_I v2)], ([], (q3.2, z)))) rfl (fun c_4 => ?_) (fun c_4 => ?_)
    · refine to_cl 4 (lv := [(0, am_R 0 i0), (1, am_I v1), (2, am_I v2)]) (st := []) (M := (q3.2, z)) (cb := (cvA0 4 z)) rfl (fun q hq => t_X7_one (by omega) hq) (fun q5 => ?_)
      refine to_if 2 (c := (xF q5.2 4 3 q5.1) ≤ 0) (p1 := 38) (p2 := 35) (a' := ([(0, am_R 0 i0), (1, am_I v1), (2, am_I v2)], ([], (q5.2, z)))) rfl (fun c_6 => ?_) (fun c_6 => ?_)
      · refine to_go 4 (pc' := 43) (a' := ([(4, am_I (0 : Int32)), (3, am_I (-1 : Int32)), (0, am_R 0 i0), (1, am_I v1), (2, am_I v2)], ([], (q5.2, z)))) rfl ?_
        refine to_fg [2, 3, 4, 1, 0] (lv' := [(0, am_R 0 i0), (1, am_I v1), (2, am_I v2), (3, am_I (-1 : Int32)), (4, am_I (0 : Int32))]) rfl ?_
        exact tb_X8_soon_43 (by omega)  n i0 v1 v2 (-1 : Int32) (0 : Int32) q5.2
      · exact to_rt 2 (r := ((-103 : Int32), q5.2)) rfl
    · exact to_rt 2 (r := ((-101 : Int32), q3.2)) rfl
def b_X8_kept_22 (n : Nat) : Nat → Nat → Int32 → Int32 → am_X → Option (Int32 × am_X)
  | 0, _, _, _, _ => none
  | k + 1, i0, v1, v2, x => if (9 : Int32) < v2 then (some ((-1 : Int32), x)) else ((f_X7_someoneCovered n 0 v1 v2 0 x).bind fun q2 => if ¬ q2.1 = 0 then (b_X8_kept_22 n k i0 v1 (v2 + (1 : Int32)) q2.2) else (some (v2, q2.2)))
theorem tb_X8_kept_22 {n : Nat} {d : Nat} {z : am_X} (hd : 4 ≤ d) : ∀ (k : Nat) (i0 : Nat) (v1 : Int32) (v2 : Int32) (x : am_X), am_To d (am_tab pX8_kept) 22 ([(0, am_R 0 i0), (1, am_I v1), (2, am_I v2)], ([], (x, z))) (cvI0 z) (b_X8_kept_22 n k i0 v1 v2 x) := by
  intro k
  induction k with
  | zero =>
    intro i0 v1 v2 x
    exact to_0
  | succ k ih =>
    intro i0 v1 v2 x
    rw [b_X8_kept_22]
    refine to_if 3 (c := (9 : Int32) < v2) (p1 := 52) (p2 := 28) (a' := ([(0, am_R 0 i0), (1, am_I v1), (2, am_I v2)], ([], (x, z)))) rfl (fun c_1 => ?_) (fun c_1 => ?_)
    · exact to_rt 2 (r := ((-1 : Int32), x)) rfl
    · refine to_go 4 (pc' := 34) (a' := ([(0, am_R 0 i0), (1, am_I v1), (2, am_I v2)], ([am_I v2, am_I v1, am_R 3 0], (x, z)))) rfl ?_
      refine to_cl 3 (lv := [(0, am_R 0 i0), (1, am_I v1), (2, am_I v2)]) (st := []) (M := (x, z)) (cb := (cvI0 z)) rfl (fun q hq => t_X7_someoneCovered (by omega) hq) (fun q2 => ?_)
      refine to_if 1 (c := ¬ q2.1 = 0) (p1 := 46) (p2 := 44) (a' := ([(0, am_R 0 i0), (1, am_I v1), (2, am_I v2)], ([], (q2.2, z)))) rfl (fun c_3 => ?_) (fun c_3 => ?_)
      · refine to_go 2 (pc' := 22) (a' := ([(2, am_I (v2 + (1 : Int32))), (0, am_R 0 i0), (1, am_I v1)], ([], (q2.2, z)))) rfl ?_
        refine to_fg [1, 2, 0] (lv' := [(0, am_R 0 i0), (1, am_I v1), (2, am_I (v2 + (1 : Int32)))]) rfl ?_
        exact ih i0 v1 (v2 + (1 : Int32)) q2.2
      · exact to_rt 2 (r := (v2, q2.2)) rfl
def f_X8_kept (n : Nat) (i0 : Nat) (v1 : Int32) (x : am_X) : Option (Int32 × am_X) := (f_X8_isDeed n v1 x).bind fun q1 => if ¬ q1.1 = 0 then (if ¬ (xF q1.2 0 9 i0) = 0 then (b_X8_kept_22 n n i0 v1 (1 : Int32) q1.2) else (some ((-103 : Int32), q1.2))) else (some ((-101 : Int32), q1.2))
theorem t_X8_kept {n : Nat} {d : Nat} {i0 : Nat} {v1 : Int32} {x z : am_X} {q : Int32 × am_X} (hd : 5 ≤ d) (h : f_X8_kept n i0 v1 x = some q) : am_Ev am_PR d 88 [am_R 0 i0, am_I v1] (x, z) (cvI0 z q) := by
  obtain ⟨d, rfl⟩ : ∃ e, d = e + 1 := ⟨d - 1, by omega⟩
  refine to_ev (P := (am_tab pX8_kept)) rfl (lv := [(0, am_R 0 i0), (1, am_I v1)]) rfl ?_ q h
  unfold f_X8_kept
  refine to_cl 2 (lv := [(0, am_R 0 i0), (1, am_I v1)]) (st := []) (M := (x, z)) (cb := (cvI0 z)) rfl (fun q hq => t_X8_isDeed (by omega) hq) (fun q1 => ?_)
  refine to_if 1 (c := ¬ q1.1 = 0) (p1 := 10) (p2 := 7) (a' := ([(0, am_R 0 i0), (1, am_I v1)], ([], (q1.2, z)))) rfl (fun c_2 => ?_) (fun c_2 => ?_)
  · refine to_if 3 (c := ¬ (xF q1.2 0 9 i0) = 0) (p1 := 20) (p2 := 17) (a' := ([(0, am_R 0 i0), (1, am_I v1)], ([], (q1.2, z)))) rfl (fun c_3 => ?_) (fun c_3 => ?_)
    · refine to_go 2 (pc' := 22) (a' := ([(2, am_I (1 : Int32)), (0, am_R 0 i0), (1, am_I v1)], ([], (q1.2, z)))) rfl ?_
      refine to_fg [1, 2, 0] (lv' := [(0, am_R 0 i0), (1, am_I v1), (2, am_I (1 : Int32))]) rfl ?_
      exact tb_X8_kept_22 (by omega)  n i0 v1 (1 : Int32) q1.2
    · exact to_rt 2 (r := ((-103 : Int32), q1.2)) rfl
  · exact to_rt 2 (r := ((-101 : Int32), q1.2)) rfl
def f_X8_book (n : Nat) (i0 : Nat) (v1 : Int32) (x : am_X) : Option (Int32 × am_X) := (f_X7_isHere n 0 v1 x).bind fun q1 => if ¬ q1.1 = 0 then ((f_X7_one n 0 v1 q1.2).bind fun q3 => if (xF q3.2 4 4 q3.1) = 0 then ((f_X7_one n 0 v1 q3.2).bind fun q5 => (f_X4_open n 0 q5.1 (xF q5.2 3 2 0) q5.2).bind fun q6 => some ((xF q3.2 7 3 0), q6)) else (some ((-103 : Int32), q3.2))) else (some ((-101 : Int32), q1.2))
theorem t_X8_book {n : Nat} {d : Nat} {i0 : Nat} {v1 : Int32} {x z : am_X} {q : Int32 × am_X} (hd : 4 ≤ d) (h : f_X8_book n i0 v1 x = some q) : am_Ev am_PR d 89 [am_R 0 i0, am_I v1] (x, z) (cvI0 z q) := by
  obtain ⟨d, rfl⟩ : ∃ e, d = e + 1 := ⟨d - 1, by omega⟩
  refine to_ev (P := (am_tab pX8_book)) rfl (lv := [(0, am_R 0 i0), (1, am_I v1)]) rfl ?_ q h
  unfold f_X8_book
  refine to_cl 4 (lv := [(0, am_R 0 i0), (1, am_I v1)]) (st := []) (M := (x, z)) (cb := (cvI0 z)) rfl (fun q hq => t_X7_isHere (by omega) hq) (fun q1 => ?_)
  refine to_if 1 (c := ¬ q1.1 = 0) (p1 := 14) (p2 := 11) (a' := ([(0, am_R 0 i0), (1, am_I v1)], ([], (q1.2, z)))) rfl (fun c_2 => ?_) (fun c_2 => ?_)
  · refine to_cl 4 (lv := [(0, am_R 0 i0), (1, am_I v1)]) (st := []) (M := (q1.2, z)) (cb := (cvA0 4 z)) rfl (fun q hq => t_X7_one (by omega) hq) (fun q3 => ?_)
    refine to_if 2 (c := (xF q3.2 4 4 q3.1) = 0) (p1 := 31) (p2 := 28) (a' := ([(0, am_R 0 i0), (1, am_I v1)], ([], (q3.2, z)))) rfl (fun c_4 => ?_) (fun c_4 => ?_)
    · refine to_go 4 (pc' := 39) (a' := ([(2, am_I (xF q3.2 7 3 0)), (0, am_R 0 i0), (1, am_I v1)], ([], (q3.2, z)))) rfl ?_
      refine to_go 4 (pc' := 47) (a' := ([(2, am_I (xF q3.2 7 3 0)), (0, am_R 0 i0), (1, am_I v1)], ([am_R 3 0, am_R 7 0], (q3.2, z)))) rfl ?_
      refine to_cl 2 (lv := [(2, am_I (xF q3.2 7 3 0)), (0, am_R 0 i0), (1, am_I v1)]) (st := [am_R 7 0]) (M := (q3.2, z)) (cb := (cvA0 4 z)) rfl (fun q hq => t_X7_one (by omega) hq) (fun q5 => ?_)
      refine to_cl 4 (lv := [(2, am_I (xF q3.2 7 3 0)), (0, am_R 0 i0), (1, am_I v1)]) (st := []) (M := (q5.2, z)) (cb := (cvV0 z)) rfl (fun q hq => t_X4_open (by omega) hq) (fun q6 => ?_)
      exact to_rt 2 (r := ((xF q3.2 7 3 0), q6)) rfl
    · exact to_rt 2 (r := ((-103 : Int32), q3.2)) rfl
  · exact to_rt 2 (r := ((-101 : Int32), q1.2)) rfl
def f_X8_next (n : Nat) (i0 : Nat) (v1 : Int32) (x : am_X) : Option (Int32 × am_X) := if ¬ (xF x 7 2 0) = 0 then (if v1 < 0 then (some ((-102 : Int32), x)) else (if v1 ≤ (999 : Int32) then ((f_X4_hasRoom n 0 x).bind fun q4 => if ¬ q4.1 = 0 then ((f_X4_write n 0 v1 q4.2).bind fun q6 => some ((xF q6 7 3 0), q6)) else (some ((-104 : Int32), q4.2))) else (some ((-102 : Int32), x)))) else (some ((-103 : Int32), x))
theorem t_X8_next {n : Nat} {d : Nat} {i0 : Nat} {v1 : Int32} {x z : am_X} {q : Int32 × am_X} (hd : 2 ≤ d) (h : f_X8_next n i0 v1 x = some q) : am_Ev am_PR d 90 [am_R 0 i0, am_I v1] (x, z) (cvI0 z q) := by
  obtain ⟨d, rfl⟩ : ∃ e, d = e + 1 := ⟨d - 1, by omega⟩
  refine to_ev (P := (am_tab pX8_next)) rfl (lv := [(0, am_R 0 i0), (1, am_I v1)]) rfl ?_ q h
  unfold f_X8_next
  refine to_if 4 (c := ¬ (xF x 7 2 0) = 0) (p1 := 13) (p2 := 10) (a' := ([(0, am_R 0 i0), (1, am_I v1)], ([], (x, z)))) rfl (fun c_1 => ?_) (fun c_1 => ?_)
  · refine to_if 2 (c := v1 < 0) (p1 := 24) (p2 := 17) (a' := ([(0, am_R 0 i0), (1, am_I v1)], ([], (x, z)))) rfl (fun c_2 => ?_) (fun c_2 => ?_)
    · exact to_rt 2 (r := ((-102 : Int32), x)) rfl
    · refine to_if 3 (c := v1 ≤ (999 : Int32)) (p1 := 27) (p2 := 24) (a' := ([(0, am_R 0 i0), (1, am_I v1)], ([], (x, z)))) rfl (fun c_3 => ?_) (fun c_3 => ?_)
      · refine to_cl 3 (lv := [(0, am_R 0 i0), (1, am_I v1)]) (st := []) (M := (x, z)) (cb := (cvI0 z)) rfl (fun q hq => t_X4_hasRoom (by omega) hq) (fun q4 => ?_)
        refine to_if 1 (c := ¬ q4.1 = 0) (p1 := 40) (p2 := 37) (a' := ([(0, am_R 0 i0), (1, am_I v1)], ([], (q4.2, z)))) rfl (fun c_5 => ?_) (fun c_5 => ?_)
        · refine to_cl 4 (lv := [(0, am_R 0 i0), (1, am_I v1)]) (st := []) (M := (q4.2, z)) (cb := (cvV0 z)) rfl (fun q hq => t_X4_write (by omega) hq) (fun q6 => ?_)
          exact to_rt 4 (r := ((xF q6 7 3 0), q6)) rfl
        · exact to_rt 2 (r := ((-104 : Int32), q4.2)) rfl
      · exact to_rt 2 (r := ((-102 : Int32), x)) rfl
  · exact to_rt 2 (r := ((-103 : Int32), x)) rfl
def f_X8_ways (n : Nat) (i0 : Nat) (x : am_X) : Option (Int32 × am_X) := if (xF x 7 2 0) = 0 then (some ((-103 : Int32), x)) else (if (xF x 0 11 i0) < (40 : Int32) then ((f_X4_walk n 0 0 (sF x 0 11 i0 ((xF x 0 11 i0) + (1 : Int32)))).bind fun q3 => some ((xF q3 7 5 0), q3)) else (some ((-103 : Int32), x)))
theorem t_X8_ways {n : Nat} {d : Nat} {i0 : Nat} {x z : am_X} {q : Int32 × am_X} (hd : 24 ≤ d) (h : f_X8_ways n i0 x = some q) : am_Ev am_PR d 91 [am_R 0 i0] (x, z) (cvI0 z q) := by
  obtain ⟨d, rfl⟩ : ∃ e, d = e + 1 := ⟨d - 1, by omega⟩
  refine to_ev (P := (am_tab pX8_ways)) rfl (lv := [(0, am_R 0 i0)]) rfl ?_ q h
  unfold f_X8_ways
  refine to_if 4 (c := (xF x 7 2 0) = 0) (p1 := 19) (p2 := 10) (a' := ([(0, am_R 0 i0)], ([], (x, z)))) rfl (fun c_1 => ?_) (fun c_1 => ?_)
  · exact to_rt 2 (r := ((-103 : Int32), x)) rfl
  · refine to_if 4 (c := (xF x 0 11 i0) < (40 : Int32)) (p1 := 22) (p2 := 19) (a' := ([(0, am_R 0 i0)], ([], (x, z)))) rfl (fun c_2 => ?_) (fun c_2 => ?_)
    · refine to_go 4 (pc' := 28) (a' := ([(0, am_R 0 i0)], ([am_I (1 : Int32), am_I (xF x 0 11 i0), am_R 0 i0], (x, z)))) rfl ?_
      refine to_go 4 (pc' := 36) (a' := ([(0, am_R 0 i0)], ([am_R 7 0], ((sF x 0 11 i0 ((xF x 0 11 i0) + (1 : Int32))), z)))) rfl ?_
      refine to_cl 3 (lv := [(0, am_R 0 i0)]) (st := []) (M := ((sF x 0 11 i0 ((xF x 0 11 i0) + (1 : Int32))), z)) (cb := (cvV0 z)) rfl (fun q hq => t_X4_walk (by omega) hq) (fun q3 => ?_)
      exact to_rt 4 (r := ((xF q3 7 5 0), q3)) rfl
    · exact to_rt 2 (r := ((-103 : Int32), x)) rfl
def f_X8_owed (n : Nat) (i0 : Nat) (x : am_X) : Option (Int32 × am_X) := if (xF x 7 2 0) = 0 then (some ((-103 : Int32), x)) else (if (xF x 0 11 i0) < (40 : Int32) then ((f_X4_walk n 0 0 (sF x 0 11 i0 ((xF x 0 11 i0) + (1 : Int32)))).bind fun q3 => some ((xF q3 7 6 0), q3)) else (some ((-103 : Int32), x)))
theorem t_X8_owed {n : Nat} {d : Nat} {i0 : Nat} {x z : am_X} {q : Int32 × am_X} (hd : 24 ≤ d) (h : f_X8_owed n i0 x = some q) : am_Ev am_PR d 92 [am_R 0 i0] (x, z) (cvI0 z q) := by
  obtain ⟨d, rfl⟩ : ∃ e, d = e + 1 := ⟨d - 1, by omega⟩
  refine to_ev (P := (am_tab pX8_owed)) rfl (lv := [(0, am_R 0 i0)]) rfl ?_ q h
  unfold f_X8_owed
  refine to_if 4 (c := (xF x 7 2 0) = 0) (p1 := 19) (p2 := 10) (a' := ([(0, am_R 0 i0)], ([], (x, z)))) rfl (fun c_1 => ?_) (fun c_1 => ?_)
  · exact to_rt 2 (r := ((-103 : Int32), x)) rfl
  · refine to_if 4 (c := (xF x 0 11 i0) < (40 : Int32)) (p1 := 22) (p2 := 19) (a' := ([(0, am_R 0 i0)], ([], (x, z)))) rfl (fun c_2 => ?_) (fun c_2 => ?_)
    · refine to_go 4 (pc' := 28) (a' := ([(0, am_R 0 i0)], ([am_I (1 : Int32), am_I (xF x 0 11 i0), am_R 0 i0], (x, z)))) rfl ?_
      refine to_go 4 (pc' := 36) (a' := ([(0, am_R 0 i0)], ([am_R 7 0], ((sF x 0 11 i0 ((xF x 0 11 i0) + (1 : Int32))), z)))) rfl ?_
      refine to_cl 3 (lv := [(0, am_R 0 i0)]) (st := []) (M := ((sF x 0 11 i0 ((xF x 0 11 i0) + (1 : Int32))), z)) (cb := (cvV0 z)) rfl (fun q hq => t_X4_walk (by omega) hq) (fun q3 => ?_)
      exact to_rt 4 (r := ((xF q3 7 6 0), q3)) rfl
    · exact to_rt 2 (r := ((-103 : Int32), x)) rfl
def f_X8_years (n : Nat) (i0 : Nat) (v1 : Int32) (v2 : Int32) (v3 : Int32) (x : am_X) : Option (Int32 × am_X) := if v1 < (1 : Int32) then (some ((-102 : Int32), x)) else (if (60 : Int32) < v1 then (some ((-102 : Int32), x)) else (if v2 < 0 then (some ((-102 : Int32), x)) else (if v3 < 0 then (some ((-102 : Int32), x)) else (if v3 ≤ (3 : Int32) then (if ¬ (xF x 0 9 i0) = 0 then ((f_X7_copy n 2 0 x).bind fun q7 => (f_X7_live n 2 v1 v2 0 q7).bind fun q8 => if v3 = (0 : Int32) then ((f_X7_allGot n 2 q8).bind fun q10 => some (q10.1, q10.2)) else if v3 = (1 : Int32) then ((f_X7_allOwed n 2 q8).bind fun q12 => some (q12.1, q12.2)) else if v3 = (2 : Int32) then (some ((xF q8 3 3 2), q8)) else (some ((xF q8 3 4 2), q8))) else (some ((-103 : Int32), x))) else (some ((-102 : Int32), x))))))
theorem t_X8_years {n : Nat} {d : Nat} {i0 : Nat} {v1 : Int32} {v2 : Int32} {v3 : Int32} {x z : am_X} {q : Int32 × am_X} (hd : 7 ≤ d) (h : f_X8_years n i0 v1 v2 v3 x = some q) : am_Ev am_PR d 93 [am_R 0 i0, am_I v1, am_I v2, am_I v3] (x, z) (cvI0 z q) := by
  obtain ⟨d, rfl⟩ : ∃ e, d = e + 1 := ⟨d - 1, by omega⟩
  refine to_ev (P := (am_tab pX8_years)) rfl (lv := [(0, am_R 0 i0), (1, am_I v1), (2, am_I v2), (3, am_I v3)]) rfl ?_ q h
  unfold f_X8_years
  refine to_if 3 (c := v1 < (1 : Int32)) (p1 := 24) (p2 := 5) (a' := ([(0, am_R 0 i0), (1, am_I v1), (2, am_I v2), (3, am_I v3)], ([], (x, z)))) rfl (fun c_1 => ?_) (fun c_1 => ?_)
  · exact to_rt 2 (r := ((-102 : Int32), x)) rfl
  · refine to_if 3 (c := (60 : Int32) < v1) (p1 := 24) (p2 := 11) (a' := ([(0, am_R 0 i0), (1, am_I v1), (2, am_I v2), (3, am_I v3)], ([], (x, z)))) rfl (fun c_2 => ?_) (fun c_2 => ?_)
    · exact to_rt 2 (r := ((-102 : Int32), x)) rfl
    · refine to_if 2 (c := v2 < 0) (p1 := 24) (p2 := 15) (a' := ([(0, am_R 0 i0), (1, am_I v1), (2, am_I v2), (3, am_I v3)], ([], (x, z)))) rfl (fun c_3 => ?_) (fun c_3 => ?_)
      · exact to_rt 2 (r := ((-102 : Int32), x)) rfl
      · refine to_if 2 (c := v3 < 0) (p1 := 24) (p2 := 19) (a' := ([(0, am_R 0 i0), (1, am_I v1), (2, am_I v2), (3, am_I v3)], ([], (x, z)))) rfl (fun c_4 => ?_) (fun c_4 => ?_)
        · exact to_rt 2 (r := ((-102 : Int32), x)) rfl
        · refine to_if 3 (c := v3 ≤ (3 : Int32)) (p1 := 27) (p2 := 24) (a' := ([(0, am_R 0 i0), (1, am_I v1), (2, am_I v2), (3, am_I v3)], ([], (x, z)))) rfl (fun c_5 => ?_) (fun c_5 => ?_)
          · refine to_if 3 (c := ¬ (xF x 0 9 i0) = 0) (p1 := 37) (p2 := 34) (a' := ([(0, am_R 0 i0), (1, am_I v1), (2, am_I v2), (3, am_I v3)], ([], (x, z)))) rfl (fun c_6 => ?_) (fun c_6 => ?_)
            · refine to_go 4 (pc' := 45) (a' := ([(0, am_R 0 i0), (1, am_I v1), (2, am_I v2), (3, am_I v3)], ([am_R 3 0, am_R 3 2], (x, z)))) rfl ?_
              refine to_cl 1 (lv := [(0, am_R 0 i0), (1, am_I v1), (2, am_I v2), (3, am_I v3)]) (st := []) (M := (x, z)) (cb := (cvV0 z)) rfl (fun q hq => t_X7_copy (by omega) hq) (fun q7 => ?_)
              refine to_go 4 (pc' := 54) (a' := ([(0, am_R 0 i0), (1, am_I v1), (2, am_I v2), (3, am_I v3)], ([am_I v2, am_I v1, am_R 3 2], (q7, z)))) rfl ?_
              refine to_cl 3 (lv := [(0, am_R 0 i0), (1, am_I v1), (2, am_I v2), (3, am_I v3)]) (st := []) (M := (q7, z)) (cb := (cvV0 z)) rfl (fun q hq => t_X7_live (by omega) hq) (fun q8 => ?_)
              refine to_si 2 (x := v3) (c := (0 : Int32)) (t := 88) (a' := ([(0, am_R 0 i0), (1, am_I v1), (2, am_I v2), (3, am_I v3)], ([], (q8, z)))) rfl (by decide) (fun c_9 => ?_) (fun c_9 => ?_)
              · refine to_cl 3 (lv := [(0, am_R 0 i0), (1, am_I v1), (2, am_I v2), (3, am_I v3)]) (st := []) (M := (q8, z)) (cb := (cvI0 z)) rfl (fun q hq => t_X7_allGot (by omega) hq) (fun q10 => ?_)
                exact to_rt 1 (r := (q10.1, q10.2)) rfl
              refine to_si 2 (x := v3) (c := (1 : Int32)) (t := 96) (a' := ([(0, am_R 0 i0), (1, am_I v1), (2, am_I v2), (3, am_I v3)], ([], (q8, z)))) rfl (by decide) (fun c_11 => ?_) (fun c_11 => ?_)
              · refine to_cl 3 (lv := [(0, am_R 0 i0), (1, am_I v1), (2, am_I v2), (3, am_I v3)]) (st := []) (M := (q8, z)) (cb := (cvI0 z)) rfl (fun q hq => t_X7_allOwed (by omega) hq) (fun q12 => ?_)
                exact to_rt 1 (r := (q12.1, q12.2)) rfl
              refine to_si 2 (x := v3) (c := (2 : Int32)) (t := 104) (a' := ([(0, am_R 0 i0), (1, am_I v1), (2, am_I v2), (3, am_I v3)], ([], (q8, z)))) rfl (by decide) (fun c_13 => ?_) (fun c_13 => ?_)
              · exact to_rt 4 (r := ((xF q8 3 3 2), q8)) rfl
              refine to_sd 2 (x := v3) (cs := [0, 1, 2]) (a' := ([(0, am_R 0 i0), (1, am_I v1), (2, am_I v2), (3, am_I v3)], ([], (q8, z)))) rfl (by decide) (List.forall_mem_cons.mpr ⟨c_9, List.forall_mem_cons.mpr ⟨c_11, List.forall_mem_cons.mpr ⟨c_13, fun _ h => absurd h List.not_mem_nil⟩⟩⟩) ?_
              exact to_rt 4 (r := ((xF q8 3 4 2), q8)) rfl
            · exact to_rt 2 (r := ((-103 : Int32), x)) rfl
          · exact to_rt 2 (r := ((-102 : Int32), x)) rfl
def f_X8_image (n : Nat) (i0 : Nat) (x : am_X) : Option (Int32 × am_X) := (f_X7_copy n 1 0 x).bind fun q1 => some ((xF q1 3 2 0), (sF q1 0 8 i0 (1 : Int32)))
theorem t_X8_image {n : Nat} {d : Nat} {i0 : Nat} {x z : am_X} {q : Int32 × am_X} (hd : 4 ≤ d) (h : f_X8_image n i0 x = some q) : am_Ev am_PR d 94 [am_R 0 i0] (x, z) (cvI0 z q) := by
  obtain ⟨d, rfl⟩ : ∃ e, d = e + 1 := ⟨d - 1, by omega⟩
  refine to_ev (P := (am_tab pX8_image)) rfl (lv := [(0, am_R 0 i0)]) rfl ?_ q h
  unfold f_X8_image
  refine to_go 4 (pc' := 8) (a' := ([(0, am_R 0 i0)], ([am_R 3 0, am_R 3 1], (x, z)))) rfl ?_
  refine to_cl 1 (lv := [(0, am_R 0 i0)]) (st := []) (M := (x, z)) (cb := (cvV0 z)) rfl (fun q hq => t_X7_copy (by omega) hq) (fun q1 => ?_)
  refine to_gk 2 13 (c := am_bz (1 : Int32) = true) (pc' := 16) (a' := ([(0, am_R 0 i0)], ([], ((sF q1 0 8 i0 (1 : Int32)), z)))) rfl rfl (by decide) ?_
  exact to_rt 4 (r := ((xF q1 3 2 0), (sF q1 0 8 i0 (1 : Int32)))) rfl
def f_X8_restore (n : Nat) (i0 : Nat) (x : am_X) : Option (Int32 × am_X) := if ¬ (xF x 0 8 i0) = 0 then ((f_X7_copy n 0 1 x).bind fun q2 => (f_X7_dropLapsed n 0 0 q2).bind fun q3 => (f_X4_close n 0 q3).bind fun q4 => some ((xF q4 3 2 0), q4)) else (some ((-103 : Int32), x))
theorem t_X8_restore {n : Nat} {d : Nat} {i0 : Nat} {x z : am_X} {q : Int32 × am_X} (hd : 4 ≤ d) (h : f_X8_restore n i0 x = some q) : am_Ev am_PR d 95 [am_R 0 i0] (x, z) (cvI0 z q) := by
  obtain ⟨d, rfl⟩ : ∃ e, d = e + 1 := ⟨d - 1, by omega⟩
  refine to_ev (P := (am_tab pX8_restore)) rfl (lv := [(0, am_R 0 i0)]) rfl ?_ q h
  unfold f_X8_restore
  refine to_if 3 (c := ¬ (xF x 0 8 i0) = 0) (p1 := 10) (p2 := 7) (a' := ([(0, am_R 0 i0)], ([], (x, z)))) rfl (fun c_1 => ?_) (fun c_1 => ?_)
  · refine to_go 4 (pc' := 18) (a' := ([(0, am_R 0 i0)], ([am_R 3 1, am_R 3 0], (x, z)))) rfl ?_
    refine to_cl 1 (lv := [(0, am_R 0 i0)]) (st := []) (M := (x, z)) (cb := (cvV0 z)) rfl (fun q hq => t_X7_copy (by omega) hq) (fun q2 => ?_)
    refine to_go 4 (pc' := 29) (a' := ([(0, am_R 0 i0)], ([am_R 2 0, am_R 3 0], (q2, z)))) rfl ?_
    refine to_cl 1 (lv := [(0, am_R 0 i0)]) (st := []) (M := (q2, z)) (cb := (cvV0 z)) rfl (fun q hq => t_X7_dropLapsed (by omega) hq) (fun q3 => ?_)
    refine to_cl 3 (lv := [(0, am_R 0 i0)]) (st := []) (M := (q3, z)) (cb := (cvV0 z)) rfl (fun q hq => t_X4_close (by omega) hq) (fun q4 => ?_)
    exact to_rt 4 (r := ((xF q4 3 2 0), q4)) rfl
  · exact to_rt 2 (r := ((-103 : Int32), x)) rfl
def f_X8_count (n : Nat) (i0 : Nat) (v1 : Int32) (x : am_X) : Option (Int32 × am_X) := if v1 = (0 : Int32) then (some ((xF x 2 3 0), x)) else if v1 = (1 : Int32) then (some ((xF x 3 1 0), x)) else if v1 = (2 : Int32) then ((f_X7_allGone n 0 x).bind fun q4 => some (q4.1, q4.2)) else if v1 = (3 : Int32) then (some ((xF x 3 2 0), x)) else if v1 = (4 : Int32) then ((f_X7_allOwed n 0 x).bind fun q7 => some (q7.1, q7.2)) else if v1 = (5 : Int32) then ((f_X7_allGot n 0 x).bind fun q9 => some (q9.1, q9.2)) else if v1 = (6 : Int32) then ((f_X7_allCredits n 0 x).bind fun q11 => some (q11.1, q11.2)) else if v1 = (7 : Int32) then (some ((xF x 7 3 0), x)) else if v1 = (8 : Int32) then (some ((xF x 1 2 0), x)) else if v1 = (9 : Int32) then (some ((xF x 0 9 i0), x)) else if v1 = (10 : Int32) then (some ((xF x 0 10 i0), x)) else if v1 = (11 : Int32) then (some ((xF x 0 11 i0), x)) else (some ((-102 : Int32), x))
theorem t_X8_count {n : Nat} {d : Nat} {i0 : Nat} {v1 : Int32} {x z : am_X} {q : Int32 × am_X} (hd : 3 ≤ d) (h : f_X8_count n i0 v1 x = some q) : am_Ev am_PR d 96 [am_R 0 i0, am_I v1] (x, z) (cvI0 z q) := by
  obtain ⟨d, rfl⟩ : ∃ e, d = e + 1 := ⟨d - 1, by omega⟩
  refine to_ev (P := (am_tab pX8_count)) rfl (lv := [(0, am_R 0 i0), (1, am_I v1)]) rfl ?_ q h
  unfold f_X8_count
  refine to_si 2 (x := v1) (c := (0 : Int32)) (t := 64) (a' := ([(0, am_R 0 i0), (1, am_I v1)], ([], (x, z)))) rfl (by decide) (fun c_1 => ?_) (fun c_1 => ?_)
  · exact to_rt 4 (r := ((xF x 2 3 0), x)) rfl
  refine to_si 2 (x := v1) (c := (1 : Int32)) (t := 72) (a' := ([(0, am_R 0 i0), (1, am_I v1)], ([], (x, z)))) rfl (by decide) (fun c_2 => ?_) (fun c_2 => ?_)
  · exact to_rt 4 (r := ((xF x 3 1 0), x)) rfl
  refine to_si 2 (x := v1) (c := (2 : Int32)) (t := 80) (a' := ([(0, am_R 0 i0), (1, am_I v1)], ([], (x, z)))) rfl (by decide) (fun c_3 => ?_) (fun c_3 => ?_)
  · refine to_cl 3 (lv := [(0, am_R 0 i0), (1, am_I v1)]) (st := []) (M := (x, z)) (cb := (cvI0 z)) rfl (fun q hq => t_X7_allGone (by omega) hq) (fun q4 => ?_)
    exact to_rt 1 (r := (q4.1, q4.2)) rfl
  refine to_si 2 (x := v1) (c := (3 : Int32)) (t := 88) (a' := ([(0, am_R 0 i0), (1, am_I v1)], ([], (x, z)))) rfl (by decide) (fun c_5 => ?_) (fun c_5 => ?_)
  · exact to_rt 4 (r := ((xF x 3 2 0), x)) rfl
  refine to_si 2 (x := v1) (c := (4 : Int32)) (t := 96) (a' := ([(0, am_R 0 i0), (1, am_I v1)], ([], (x, z)))) rfl (by decide) (fun c_6 => ?_) (fun c_6 => ?_)
  · refine to_cl 3 (lv := [(0, am_R 0 i0), (1, am_I v1)]) (st := []) (M := (x, z)) (cb := (cvI0 z)) rfl (fun q hq => t_X7_allOwed (by omega) hq) (fun q7 => ?_)
    exact to_rt 1 (r := (q7.1, q7.2)) rfl
  refine to_si 2 (x := v1) (c := (5 : Int32)) (t := 104) (a' := ([(0, am_R 0 i0), (1, am_I v1)], ([], (x, z)))) rfl (by decide) (fun c_8 => ?_) (fun c_8 => ?_)
  · refine to_cl 3 (lv := [(0, am_R 0 i0), (1, am_I v1)]) (st := []) (M := (x, z)) (cb := (cvI0 z)) rfl (fun q hq => t_X7_allGot (by omega) hq) (fun q9 => ?_)
    exact to_rt 1 (r := (q9.1, q9.2)) rfl
  refine to_si 2 (x := v1) (c := (6 : Int32)) (t := 112) (a' := ([(0, am_R 0 i0), (1, am_I v1)], ([], (x, z)))) rfl (by decide) (fun c_10 => ?_) (fun c_10 => ?_)
  · refine to_cl 3 (lv := [(0, am_R 0 i0), (1, am_I v1)]) (st := []) (M := (x, z)) (cb := (cvI0 z)) rfl (fun q hq => t_X7_allCredits (by omega) hq) (fun q11 => ?_)
    exact to_rt 1 (r := (q11.1, q11.2)) rfl
  refine to_si 2 (x := v1) (c := (7 : Int32)) (t := 120) (a' := ([(0, am_R 0 i0), (1, am_I v1)], ([], (x, z)))) rfl (by decide) (fun c_12 => ?_) (fun c_12 => ?_)
  · exact to_rt 4 (r := ((xF x 7 3 0), x)) rfl
  refine to_si 2 (x := v1) (c := (8 : Int32)) (t := 128) (a' := ([(0, am_R 0 i0), (1, am_I v1)], ([], (x, z)))) rfl (by decide) (fun c_13 => ?_) (fun c_13 => ?_)
  · exact to_rt 4 (r := ((xF x 1 2 0), x)) rfl
  refine to_si 2 (x := v1) (c := (9 : Int32)) (t := 136) (a' := ([(0, am_R 0 i0), (1, am_I v1)], ([], (x, z)))) rfl (by decide) (fun c_14 => ?_) (fun c_14 => ?_)
  · exact to_rt 3 (r := ((xF x 0 9 i0), x)) rfl
  refine to_si 2 (x := v1) (c := (10 : Int32)) (t := 141) (a' := ([(0, am_R 0 i0), (1, am_I v1)], ([], (x, z)))) rfl (by decide) (fun c_15 => ?_) (fun c_15 => ?_)
  · exact to_rt 3 (r := ((xF x 0 10 i0), x)) rfl
  refine to_si 2 (x := v1) (c := (11 : Int32)) (t := 146) (a' := ([(0, am_R 0 i0), (1, am_I v1)], ([], (x, z)))) rfl (by decide) (fun c_16 => ?_) (fun c_16 => ?_)
  · exact to_rt 3 (r := ((xF x 0 11 i0), x)) rfl
  refine to_sd 2 (x := v1) (cs := [0, 1, 2, 3, 4, 5, 6, 7, 8, 9, 10, 11]) (a' := ([(0, am_R 0 i0), (1, am_I v1)], ([], (x, z)))) rfl (by decide) (List.forall_mem_cons.mpr ⟨c_1, List.forall_mem_cons.mpr ⟨c_2, List.forall_mem_cons.mpr ⟨c_3, List.forall_mem_cons.mpr ⟨c_5, List.forall_mem_cons.mpr ⟨c_6, List.forall_mem_cons.mpr ⟨c_8, List.forall_mem_cons.mpr ⟨c_10, List.forall_mem_cons.mpr ⟨c_12, List.forall_mem_cons.mpr ⟨c_13, List.forall_mem_cons.mpr ⟨c_14, List.forall_mem_cons.mpr ⟨c_15, List.forall_mem_cons.mpr ⟨c_16, fun _ h => absurd h List.not_mem_nil⟩⟩⟩⟩⟩⟩⟩⟩⟩⟩⟩⟩) ?_
  exact to_rt 2 (r := ((-102 : Int32), x)) rfl
def b_X8_withDeed_6 (n : Nat) : Nat → Nat → Int32 → Int64 → Int32 → am_X → Option (Int64 × am_X)
  | 0, _, _, _, _, _ => none
  | k + 1, i0, v3, v4, v6, x => if (3 : Int32) ≤ v6 then ((f_X8_kept n i0 v3 x).bind fun q2 => some ((((31 : Int64) * v4) + (Int32.toInt64 q2.1)), q2.2)) else ((f_X8_deed n i0 v3 v6 x).bind fun q3 => b_X8_withDeed_6 n k i0 v3 (((31 : Int64) * v4) + (Int32.toInt64 q3.1)) (v6 + (1 : Int32)) q3.2)
theorem tb_X8_withDeed_6 {n : Nat} {d : Nat} {z : am_X} (hd : 5 ≤ d) : ∀ (k : Nat) (i0 : Nat) (v3 : Int32) (v4 : Int64) (v6 : Int32) (x : am_X), am_To d (am_tab pX8_withDeed) 6 ([(0, am_R 0 i0), (3, am_I v3), (4, am_J v4), (6, am_I v6)], ([], (x, z))) (cvJ0 z) (b_X8_withDeed_6 n k i0 v3 v4 v6 x) := by
  intro k
  induction k with
  | zero =>
    intro i0 v3 v4 v6 x
    exact to_0
  | succ k ih =>
    intro i0 v3 v4 v6 x
    rw [b_X8_withDeed_6]
    refine to_if 3 (c := (3 : Int32) ≤ v6) (p1 := 35) (p2 := 12) (a' := ([(0, am_R 0 i0), (3, am_I v3), (4, am_J v4), (6, am_I v6)], ([], (x, z)))) rfl (fun c_1 => ?_) (fun c_1 => ?_)
    · refine to_go 4 (pc' := 42) (a' := ([(0, am_R 0 i0), (3, am_I v3), (4, am_J v4), (6, am_I v6)], ([am_R 0 i0, am_J ((31 : Int64) * v4)], (x, z)))) rfl ?_
      refine to_cl 2 (lv := [(0, am_R 0 i0), (3, am_I v3), (4, am_J v4), (6, am_I v6)]) (st := [am_J ((31 : Int64) * v4)]) (M := (x, z)) (cb := (cvI0 z)) rfl (fun q hq => t_X8_kept (by omega) hq) (fun q2 => ?_)
      exact to_rt 3 (r := ((((31 : Int64) * v4) + (Int32.toInt64 q2.1)), q2.2)) rfl
    · refine to_go 4 (pc' := 19) (a' := ([(0, am_R 0 i0), (3, am_I v3), (4, am_J v4), (6, am_I v6)], ([am_R 0 i0, am_J ((31 : Int64) * v4)], (x, z)))) rfl ?_
      refine to_cl 3 (lv := [(0, am_R 0 i0), (3, am_I v3), (4, am_J v4), (6, am_I v6)]) (st := [am_J ((31 : Int64) * v4)]) (M := (x, z)) (cb := (cvI0 z)) rfl (fun q hq => t_X8_deed (by omega) hq) (fun q3 => ?_)
      refine to_go 4 (pc' := 32) (a' := ([(6, am_I (v6 + (1 : Int32))), (4, am_J (((31 : Int64) * v4) + (Int32.toInt64 q3.1))), (0, am_R 0 i0), (3, am_I v3)], ([], (q3.2, z)))) rfl ?_
      refine to_go 1 (pc' := 6) (a' := ([(6, am_I (v6 + (1 : Int32))), (4, am_J (((31 : Int64) * v4) + (Int32.toInt64 q3.1))), (0, am_R 0 i0), (3, am_I v3)], ([], (q3.2, z)))) rfl ?_
      refine to_fg [2, 3, 1, 0] (lv' := [(0, am_R 0 i0), (3, am_I v3), (4, am_J (((31 : Int64) * v4) + (Int32.toInt64 q3.1))), (6, am_I (v6 + (1 : Int32)))]) rfl ?_
      exact ih i0 v3 (((31 : Int64) * v4) + (Int32.toInt64 q3.1)) (v6 + (1 : Int32)) q3.2
def f_X8_withDeed (n : Nat) (i0 : Nat) (v1 : Int64) (v3 : Int32) (x : am_X) : Option (Int64 × am_X) := b_X8_withDeed_6 n n i0 v3 v1 (0 : Int32) x
theorem t_X8_withDeed {n : Nat} {d : Nat} {i0 : Nat} {v1 : Int64} {v3 : Int32} {x z : am_X} {q : Int64 × am_X} (hd : 6 ≤ d) (h : f_X8_withDeed n i0 v1 v3 x = some q) : am_Ev am_PR d 98 [am_R 0 i0, am_J v1, am_I v3] (x, z) (cvJ0 z q) := by
  obtain ⟨d, rfl⟩ : ∃ e, d = e + 1 := ⟨d - 1, by omega⟩
  refine to_ev (P := (am_tab pX8_withDeed)) rfl (lv := [(0, am_R 0 i0), (1, am_J v1), (3, am_I v3)]) rfl ?_ q h
  unfold f_X8_withDeed
  refine to_go 4 (pc' := 6) (a' := ([(6, am_I (0 : Int32)), (4, am_J v1), (0, am_R 0 i0), (1, am_J v1), (3, am_I v3)], ([], (x, z)))) rfl ?_
  refine to_fg [2, 4, 1, 0] (lv' := [(0, am_R 0 i0), (3, am_I v3), (4, am_J v1), (6, am_I (0 : Int32))]) rfl ?_
  exact tb_X8_withDeed_6 (by omega)  n i0 v3 v1 (0 : Int32) x
def b_X8_withPerson_39 (n : Nat) : Nat → Nat → Int32 → Int64 → Int32 → am_X → Option (Int64 × am_X)
  | 0, _, _, _, _, _ => none
  | k + 1, i0, v3, v4, v6, x => (f_X7_isHere n 0 v3 x).bind fun q1 => if q1.1 = 0 then (some (v4, q1.2)) else (if (4 : Int32) ≤ v6 then (some (v4, q1.2)) else ((f_X8_soon n i0 v3 v6 q1.2).bind fun q4 => b_X8_withPerson_39 n k i0 v3 (((31 : Int64) * v4) + (Int32.toInt64 q4.1)) (v6 + (1 : Int32)) q4.2))
theorem tb_X8_withPerson_39 {n : Nat} {d : Nat} {z : am_X} (hd : 6 ≤ d) : ∀ (k : Nat) (i0 : Nat) (v3 : Int32) (v4 : Int64) (v6 : Int32) (x : am_X), am_To d (am_tab pX8_withPerson) 39 ([(0, am_R 0 i0), (3, am_I v3), (4, am_J v4), (6, am_I v6)], ([], (x, z))) (cvJ0 z) (b_X8_withPerson_39 n k i0 v3 v4 v6 x) := by
  intro k
  induction k with
  | zero =>
    intro i0 v3 v4 v6 x
    exact to_0
  | succ k ih =>
    intro i0 v3 v4 v6 x
    rw [b_X8_withPerson_39]
    refine to_cl 4 (lv := [(0, am_R 0 i0), (3, am_I v3), (4, am_J v4), (6, am_I v6)]) (st := []) (M := (x, z)) (cb := (cvI0 z)) rfl (fun q hq => t_X7_isHere (by omega) hq) (fun q1 => ?_)
    refine to_if 1 (c := q1.1 = 0) (p1 := 79) (p2 := 50) (a' := ([(0, am_R 0 i0), (3, am_I v3), (4, am_J v4), (6, am_I v6)], ([], (q1.2, z)))) rfl (fun c_2 => ?_) (fun c_2 => ?_)
    · exact to_rt 2 (r := (v4, q1.2)) rfl
    · refine to_if 3 (c := (4 : Int32) ≤ v6) (p1 := 79) (p2 := 56) (a' := ([(0, am_R 0 i0), (3, am_I v3), (4, am_J v4), (6, am_I v6)], ([], (q1.2, z)))) rfl (fun c_3 => ?_) (fun c_3 => ?_)
      · exact to_rt 2 (r := (v4, q1.2)) rfl
      · refine to_go 4 (pc' := 63) (a' := ([(0, am_R 0 i0), (3, am_I v3), (4, am_J v4), (6, am_I v6)], ([am_R 0 i0, am_J ((31 : Int64) * v4)], (q1.2, z)))) rfl ?_
        refine to_cl 3 (lv := [(0, am_R 0 i0), (3, am_I v3), (4, am_J v4), (6, am_I v6)]) (st := [am_J ((31 : Int64) * v4)]) (M := (q1.2, z)) (cb := (cvI0 z)) rfl (fun q hq => t_X8_soon (by omega) hq) (fun q4 => ?_)
        refine to_go 4 (pc' := 76) (a' := ([(6, am_I (v6 + (1 : Int32))), (4, am_J (((31 : Int64) * v4) + (Int32.toInt64 q4.1))), (0, am_R 0 i0), (3, am_I v3)], ([], (q4.2, z)))) rfl ?_
        refine to_go 1 (pc' := 39) (a' := ([(6, am_I (v6 + (1 : Int32))), (4, am_J (((31 : Int64) * v4) + (Int32.toInt64 q4.1))), (0, am_R 0 i0), (3, am_I v3)], ([], (q4.2, z)))) rfl ?_
        refine to_fg [2, 3, 1, 0] (lv' := [(0, am_R 0 i0), (3, am_I v3), (4, am_J (((31 : Int64) * v4) + (Int32.toInt64 q4.1))), (6, am_I (v6 + (1 : Int32)))]) rfl ?_
        exact ih i0 v3 (((31 : Int64) * v4) + (Int32.toInt64 q4.1)) (v6 + (1 : Int32)) q4.2
def b_X8_withPerson_6 (n : Nat) : Nat → Nat → Int32 → Int64 → Int32 → am_X → Option (Int64 × am_X)
  | 0, _, _, _, _, _ => none
  | k + 1, i0, v3, v4, v6, x => if (10 : Int32) ≤ v6 then (b_X8_withPerson_39 n n i0 v3 v4 (0 : Int32) x) else ((f_X8_about n i0 v3 v6 x).bind fun q2 => b_X8_withPerson_6 n k i0 v3 (((31 : Int64) * v4) + (Int32.toInt64 q2.1)) (v6 + (1 : Int32)) q2.2)
theorem tb_X8_withPerson_6 {n : Nat} {d : Nat} {z : am_X} (hd : 6 ≤ d) : ∀ (k : Nat) (i0 : Nat) (v3 : Int32) (v4 : Int64) (v6 : Int32) (x : am_X), am_To d (am_tab pX8_withPerson) 6 ([(0, am_R 0 i0), (3, am_I v3), (4, am_J v4), (6, am_I v6)], ([], (x, z))) (cvJ0 z) (b_X8_withPerson_6 n k i0 v3 v4 v6 x) := by
  intro k
  induction k with
  | zero =>
    intro i0 v3 v4 v6 x
    exact to_0
  | succ k ih =>
    intro i0 v3 v4 v6 x
    rw [b_X8_withPerson_6]
    refine to_if 3 (c := (10 : Int32) ≤ v6) (p1 := 36) (p2 := 13) (a' := ([(0, am_R 0 i0), (3, am_I v3), (4, am_J v4), (6, am_I v6)], ([], (x, z)))) rfl (fun c_1 => ?_) (fun c_1 => ?_)
    · refine to_go 2 (pc' := 39) (a' := ([(6, am_I (0 : Int32)), (0, am_R 0 i0), (3, am_I v3), (4, am_J v4)], ([], (x, z)))) rfl ?_
      refine to_fg [1, 2, 3, 0] (lv' := [(0, am_R 0 i0), (3, am_I v3), (4, am_J v4), (6, am_I (0 : Int32))]) rfl ?_
      exact tb_X8_withPerson_39 (by omega)  n i0 v3 v4 (0 : Int32) x
    · refine to_go 4 (pc' := 20) (a' := ([(0, am_R 0 i0), (3, am_I v3), (4, am_J v4), (6, am_I v6)], ([am_R 0 i0, am_J ((31 : Int64) * v4)], (x, z)))) rfl ?_
      refine to_cl 3 (lv := [(0, am_R 0 i0), (3, am_I v3), (4, am_J v4), (6, am_I v6)]) (st := [am_J ((31 : Int64) * v4)]) (M := (x, z)) (cb := (cvI0 z)) rfl (fun q hq => t_X8_about (by omega) hq) (fun q2 => ?_)
      refine to_go 4 (pc' := 33) (a' := ([(6, am_I (v6 + (1 : Int32))), (4, am_J (((31 : Int64) * v4) + (Int32.toInt64 q2.1))), (0, am_R 0 i0), (3, am_I v3)], ([], (q2.2, z)))) rfl ?_
      refine to_go 1 (pc' := 6) (a' := ([(6, am_I (v6 + (1 : Int32))), (4, am_J (((31 : Int64) * v4) + (Int32.toInt64 q2.1))), (0, am_R 0 i0), (3, am_I v3)], ([], (q2.2, z)))) rfl ?_
      refine to_fg [2, 3, 1, 0] (lv' := [(0, am_R 0 i0), (3, am_I v3), (4, am_J (((31 : Int64) * v4) + (Int32.toInt64 q2.1))), (6, am_I (v6 + (1 : Int32)))]) rfl ?_
      exact ih i0 v3 (((31 : Int64) * v4) + (Int32.toInt64 q2.1)) (v6 + (1 : Int32)) q2.2
def f_X8_withPerson (n : Nat) (i0 : Nat) (v1 : Int64) (v3 : Int32) (x : am_X) : Option (Int64 × am_X) := b_X8_withPerson_6 n n i0 v3 v1 (0 : Int32) x
theorem t_X8_withPerson {n : Nat} {d : Nat} {i0 : Nat} {v1 : Int64} {v3 : Int32} {x z : am_X} {q : Int64 × am_X} (hd : 7 ≤ d) (h : f_X8_withPerson n i0 v1 v3 x = some q) : am_Ev am_PR d 99 [am_R 0 i0, am_J v1, am_I v3] (x, z) (cvJ0 z q) := by
  obtain ⟨d, rfl⟩ : ∃ e, d = e + 1 := ⟨d - 1, by omega⟩
  refine to_ev (P := (am_tab pX8_withPerson)) rfl (lv := [(0, am_R 0 i0), (1, am_J v1), (3, am_I v3)]) rfl ?_ q h
  unfold f_X8_withPerson
  refine to_go 4 (pc' := 6) (a' := ([(6, am_I (0 : Int32)), (4, am_J v1), (0, am_R 0 i0), (1, am_J v1), (3, am_I v3)], ([], (x, z)))) rfl ?_
  refine to_fg [2, 4, 1, 0] (lv' := [(0, am_R 0 i0), (3, am_I v3), (4, am_J v1), (6, am_I (0 : Int32))]) rfl ?_
  exact tb_X8_withPerson_6 (by omega)  n i0 v3 v1 (0 : Int32) x
def b_X8_digest_94 (n : Nat) : Nat → Nat → Int64 → Int32 → am_X → Option (Int64 × am_X)
  | 0, _, _, _, _ => none
  | k + 1, i0, v1, v3, x => if (12 : Int32) ≤ v3 then (some (v1, x)) else ((f_X8_count n i0 v3 x).bind fun q2 => b_X8_digest_94 n k i0 (((31 : Int64) * v1) + (Int32.toInt64 q2.1)) (v3 + (1 : Int32)) q2.2)
theorem tb_X8_digest_94 {n : Nat} {d : Nat} {z : am_X} (hd : 7 ≤ d) : ∀ (k : Nat) (i0 : Nat) (v1 : Int64) (v3 : Int32) (x : am_X), am_To d (am_tab pX8_digest) 94 ([(0, am_R 0 i0), (1, am_J v1), (3, am_I v3)], ([], (x, z))) (cvJ0 z) (b_X8_digest_94 n k i0 v1 v3 x) := by
  intro k
  induction k with
  | zero =>
    intro i0 v1 v3 x
    exact to_0
  | succ k ih =>
    intro i0 v1 v3 x
    rw [b_X8_digest_94]
    refine to_if 3 (c := (12 : Int32) ≤ v3) (p1 := 119) (p2 := 100) (a' := ([(0, am_R 0 i0), (1, am_J v1), (3, am_I v3)], ([], (x, z)))) rfl (fun c_1 => ?_) (fun c_1 => ?_)
    · exact to_rt 2 (r := (v1, x)) rfl
    · refine to_go 4 (pc' := 106) (a' := ([(0, am_R 0 i0), (1, am_J v1), (3, am_I v3)], ([am_R 0 i0, am_J ((31 : Int64) * v1)], (x, z)))) rfl ?_
      refine to_cl 2 (lv := [(0, am_R 0 i0), (1, am_J v1), (3, am_I v3)]) (st := [am_J ((31 : Int64) * v1)]) (M := (x, z)) (cb := (cvI0 z)) rfl (fun q hq => t_X8_count (by omega) hq) (fun q2 => ?_)
      refine to_go 4 (pc' := 116) (a' := ([(3, am_I (v3 + (1 : Int32))), (1, am_J (((31 : Int64) * v1) + (Int32.toInt64 q2.1))), (0, am_R 0 i0)], ([], (q2.2, z)))) rfl ?_
      refine to_go 1 (pc' := 94) (a' := ([(3, am_I (v3 + (1 : Int32))), (1, am_J (((31 : Int64) * v1) + (Int32.toInt64 q2.1))), (0, am_R 0 i0)], ([], (q2.2, z)))) rfl ?_
      refine to_fg [2, 1, 0] (lv' := [(0, am_R 0 i0), (1, am_J (((31 : Int64) * v1) + (Int32.toInt64 q2.1))), (3, am_I (v3 + (1 : Int32)))]) rfl ?_
      exact ih i0 (((31 : Int64) * v1) + (Int32.toInt64 q2.1)) (v3 + (1 : Int32)) q2.2
def b_X8_digest_59 (n : Nat) : Nat → Nat → Int64 → Int32 → am_X → Option (Int64 × am_X)
  | 0, _, _, _, _ => none
  | k + 1, i0, v1, v3, x => if (xF x 1 2 0) ≤ v3 then (b_X8_digest_94 n n i0 v1 (0 : Int32) x) else ((f_X5_at n 0 v3 x).bind fun q2 => b_X8_digest_59 n k i0 (((31 : Int64) * v1) + (Int32.toInt64 q2.1)) (v3 + (1 : Int32)) q2.2)
theorem tb_X8_digest_59 {n : Nat} {d : Nat} {z : am_X} (hd : 7 ≤ d) : ∀ (k : Nat) (i0 : Nat) (v1 : Int64) (v3 : Int32) (x : am_X), am_To d (am_tab pX8_digest) 59 ([(0, am_R 0 i0), (1, am_J v1), (3, am_I v3)], ([], (x, z))) (cvJ0 z) (b_X8_digest_59 n k i0 v1 v3 x) := by
  intro k
  induction k with
  | zero =>
    intro i0 v1 v3 x
    exact to_0
  | succ k ih =>
    intro i0 v1 v3 x
    rw [b_X8_digest_59]
    refine to_go 4 (pc' := 67) (a' := ([(0, am_R 0 i0), (1, am_J v1), (3, am_I v3)], ([am_I (xF x 1 2 0), am_I v3], (x, z)))) rfl ?_
    refine to_if 1 (c := (xF x 1 2 0) ≤ v3) (p1 := 92) (p2 := 70) (a' := ([(0, am_R 0 i0), (1, am_J v1), (3, am_I v3)], ([], (x, z)))) rfl (fun c_1 => ?_) (fun c_1 => ?_)
    · refine to_go 2 (pc' := 94) (a' := ([(3, am_I (0 : Int32)), (0, am_R 0 i0), (1, am_J v1)], ([], (x, z)))) rfl ?_
      refine to_fg [1, 2, 0] (lv' := [(0, am_R 0 i0), (1, am_J v1), (3, am_I (0 : Int32))]) rfl ?_
      exact tb_X8_digest_94 (by omega)  n i0 v1 (0 : Int32) x
    · refine to_go 4 (pc' := 76) (a' := ([(0, am_R 0 i0), (1, am_J v1), (3, am_I v3)], ([am_R 0 i0, am_J ((31 : Int64) * v1)], (x, z)))) rfl ?_
      refine to_cl 3 (lv := [(0, am_R 0 i0), (1, am_J v1), (3, am_I v3)]) (st := [am_J ((31 : Int64) * v1)]) (M := (x, z)) (cb := (cvI0 z)) rfl (fun q hq => t_X5_at (by omega) hq) (fun q2 => ?_)
      refine to_go 4 (pc' := 89) (a' := ([(3, am_I (v3 + (1 : Int32))), (1, am_J (((31 : Int64) * v1) + (Int32.toInt64 q2.1))), (0, am_R 0 i0)], ([], (q2.2, z)))) rfl ?_
      refine to_go 1 (pc' := 59) (a' := ([(3, am_I (v3 + (1 : Int32))), (1, am_J (((31 : Int64) * v1) + (Int32.toInt64 q2.1))), (0, am_R 0 i0)], ([], (q2.2, z)))) rfl ?_
      refine to_fg [2, 1, 0] (lv' := [(0, am_R 0 i0), (1, am_J (((31 : Int64) * v1) + (Int32.toInt64 q2.1))), (3, am_I (v3 + (1 : Int32)))]) rfl ?_
      exact ih i0 (((31 : Int64) * v1) + (Int32.toInt64 q2.1)) (v3 + (1 : Int32)) q2.2
def b_X8_digest_33 (n : Nat) : Nat → Nat → Int64 → Int32 → am_X → Option (Int64 × am_X)
  | 0, _, _, _, _ => none
  | k + 1, i0, v1, v3, x => if (xF x 3 1 0) ≤ v3 then (b_X8_digest_59 n n i0 v1 (0 : Int32) x) else ((f_X8_withPerson n i0 v1 v3 x).bind fun q2 => b_X8_digest_33 n k i0 q2.1 (v3 + (1 : Int32)) q2.2)
theorem tb_X8_digest_33 {n : Nat} {d : Nat} {z : am_X} (hd : 7 ≤ d) : ∀ (k : Nat) (i0 : Nat) (v1 : Int64) (v3 : Int32) (x : am_X), am_To d (am_tab pX8_digest) 33 ([(0, am_R 0 i0), (1, am_J v1), (3, am_I v3)], ([], (x, z))) (cvJ0 z) (b_X8_digest_33 n k i0 v1 v3 x) := by
  intro k
  induction k with
  | zero =>
    intro i0 v1 v3 x
    exact to_0
  | succ k ih =>
    intro i0 v1 v3 x
    rw [b_X8_digest_33]
    refine to_go 4 (pc' := 41) (a' := ([(0, am_R 0 i0), (1, am_J v1), (3, am_I v3)], ([am_I (xF x 3 1 0), am_I v3], (x, z)))) rfl ?_
    refine to_if 1 (c := (xF x 3 1 0) ≤ v3) (p1 := 57) (p2 := 44) (a' := ([(0, am_R 0 i0), (1, am_J v1), (3, am_I v3)], ([], (x, z)))) rfl (fun c_1 => ?_) (fun c_1 => ?_)
    · refine to_go 2 (pc' := 59) (a' := ([(3, am_I (0 : Int32)), (0, am_R 0 i0), (1, am_J v1)], ([], (x, z)))) rfl ?_
      refine to_fg [1, 2, 0] (lv' := [(0, am_R 0 i0), (1, am_J v1), (3, am_I (0 : Int32))]) rfl ?_
      exact tb_X8_digest_59 (by omega)  n i0 v1 (0 : Int32) x
    · refine to_cl 4 (lv := [(0, am_R 0 i0), (1, am_J v1), (3, am_I v3)]) (st := []) (M := (x, z)) (cb := (cvJ0 z)) rfl (fun q hq => t_X8_withPerson (by omega) hq) (fun q2 => ?_)
      refine to_go 3 (pc' := 33) (a' := ([(3, am_I (v3 + (1 : Int32))), (1, am_J q2.1), (0, am_R 0 i0)], ([], (q2.2, z)))) rfl ?_
      refine to_fg [2, 1, 0] (lv' := [(0, am_R 0 i0), (1, am_J q2.1), (3, am_I (v3 + (1 : Int32)))]) rfl ?_
      exact ih i0 q2.1 (v3 + (1 : Int32)) q2.2
def b_X8_digest_31 (n : Nat) (i0 : Nat) (v1 : Int64) (x : am_X) : Option (Int64 × am_X) := b_X8_digest_33 n n i0 v1 (0 : Int32) x
theorem tb_X8_digest_31 {n : Nat} {d : Nat} {z : am_X} (hd : 7 ≤ d) (i0 : Nat) (v1 : Int64) (x : am_X) : am_To d (am_tab pX8_digest) 31 ([(0, am_R 0 i0), (1, am_J v1)], ([], (x, z))) (cvJ0 z) (b_X8_digest_31 n i0 v1 x) := by
  unfold b_X8_digest_31
  refine to_go 2 (pc' := 33) (a' := ([(3, am_I (0 : Int32)), (0, am_R 0 i0), (1, am_J v1)], ([], (x, z)))) rfl ?_
  refine to_fg [1, 2, 0] (lv' := [(0, am_R 0 i0), (1, am_J v1), (3, am_I (0 : Int32))]) rfl ?_
  exact tb_X8_digest_33 (by omega)  n i0 v1 (0 : Int32) x
def b_X8_digest_6 (n : Nat) : Nat → Nat → Int64 → Int32 → am_X → Option (Int64 × am_X)
  | 0, _, _, _, _ => none
  | k + 1, i0, v1, v3, x => if (xF x 0 9 i0) ≤ 0 then (b_X8_digest_31 n i0 v1 x) else (if (4 : Int32) ≤ v3 then (b_X8_digest_31 n i0 v1 x) else ((f_X8_withDeed n i0 v1 v3 x).bind fun q3 => b_X8_digest_6 n k i0 q3.1 (v3 + (1 : Int32)) q3.2))
theorem tb_X8_digest_6 {n : Nat} {d : Nat} {z : am_X} (hd : 7 ≤ d) : ∀ (k : Nat) (i0 : Nat) (v1 : Int64) (v3 : Int32) (x : am_X), am_To d (am_tab pX8_digest) 6 ([(0, am_R 0 i0), (1, am_J v1), (3, am_I v3)], ([], (x, z))) (cvJ0 z) (b_X8_digest_6 n k i0 v1 v3 x) := by
  intro k
  induction k with
  | zero =>
    intro i0 v1 v3 x
    exact to_0
  | succ k ih =>
    intro i0 v1 v3 x
    rw [b_X8_digest_6]
    refine to_if 3 (c := (xF x 0 9 i0) ≤ 0) (p1 := 31) (p2 := 13) (a' := ([(0, am_R 0 i0), (1, am_J v1), (3, am_I v3)], ([], (x, z)))) rfl (fun c_1 => ?_) (fun c_1 => ?_)
    · refine to_fg [0, 1] (lv' := [(0, am_R 0 i0), (1, am_J v1)]) rfl ?_
      exact tb_X8_digest_31 (by omega)  i0 v1 x
    · refine to_if 3 (c := (4 : Int32) ≤ v3) (p1 := 31) (p2 := 18) (a' := ([(0, am_R 0 i0), (1, am_J v1), (3, am_I v3)], ([], (x, z)))) rfl (fun c_2 => ?_) (fun c_2 => ?_)
      · refine to_fg [0, 1] (lv' := [(0, am_R 0 i0), (1, am_J v1)]) rfl ?_
        exact tb_X8_digest_31 (by omega)  i0 v1 x
      · refine to_cl 4 (lv := [(0, am_R 0 i0), (1, am_J v1), (3, am_I v3)]) (st := []) (M := (x, z)) (cb := (cvJ0 z)) rfl (fun q hq => t_X8_withDeed (by omega) hq) (fun q3 => ?_)
        refine to_go 3 (pc' := 6) (a' := ([(3, am_I (v3 + (1 : Int32))), (1, am_J q3.1), (0, am_R 0 i0)], ([], (q3.2, z)))) rfl ?_
        refine to_fg [2, 1, 0] (lv' := [(0, am_R 0 i0), (1, am_J q3.1), (3, am_I (v3 + (1 : Int32)))]) rfl ?_
        exact ih i0 q3.1 (v3 + (1 : Int32)) q3.2
def f_X8_digest (n : Nat) (i0 : Nat) (x : am_X) : Option (Int64 × am_X) := b_X8_digest_6 n n i0 (733 : Int64) (0 : Int32) x
theorem t_X8_digest {n : Nat} {d : Nat} {i0 : Nat} {x z : am_X} {q : Int64 × am_X} (hd : 8 ≤ d) (h : f_X8_digest n i0 x = some q) : am_Ev am_PR d 97 [am_R 0 i0] (x, z) (cvJ0 z q) := by
  obtain ⟨d, rfl⟩ : ∃ e, d = e + 1 := ⟨d - 1, by omega⟩
  refine to_ev (P := (am_tab pX8_digest)) rfl (lv := [(0, am_R 0 i0)]) rfl ?_ q h
  unfold f_X8_digest
  refine to_go 4 (pc' := 6) (a' := ([(3, am_I (0 : Int32)), (1, am_J (733 : Int64)), (0, am_R 0 i0)], ([], (x, z)))) rfl ?_
  refine to_fg [2, 1, 0] (lv' := [(0, am_R 0 i0), (1, am_J (733 : Int64)), (3, am_I (0 : Int32))]) rfl ?_
  exact tb_X8_digest_6 (by omega)  n i0 (733 : Int64) (0 : Int32) x
def f_X9_within (n : Nat) (v0 : Int32) (v1 : Int32) (v2 : Int32) (x : am_X) : Option (Int32 × am_X) := if v0 < v1 then (some ((0 : Int32), x)) else (if v2 < v0 then (some ((0 : Int32), x)) else (some ((1 : Int32), x)))
theorem t_X9_within {n : Nat} {d : Nat} {v0 : Int32} {v1 : Int32} {v2 : Int32} {x z : am_X} {q : Int32 × am_X} (hd : 1 ≤ d) (h : f_X9_within n v0 v1 v2 x = some q) : am_Ev am_PR d 108 [am_I v0, am_I v1, am_I v2] (z, x) (cvI1 z q) := by
  obtain ⟨d, rfl⟩ : ∃ e, d = e + 1 := ⟨d - 1, by omega⟩
  refine to_ev (P := (am_tab pX9_within)) rfl (lv := [(0, am_I v0), (1, am_I v1), (2, am_I v2)]) rfl ?_ q h
  unfold f_X9_within
  refine to_if 3 (c := v0 < v1) (p1 := 14) (p2 := 5) (a' := ([(0, am_I v0), (1, am_I v1), (2, am_I v2)], ([], (z, x)))) rfl (fun c_1 => ?_) (fun c_1 => ?_)
  · exact to_rk 1 15 (c := am_bz (0 : Int32) = true) (r := ((0 : Int32), x)) rfl rfl (by decide)
  · refine to_if 3 (c := v2 < v0) (p1 := 14) (p2 := 10) (a' := ([(0, am_I v0), (1, am_I v1), (2, am_I v2)], ([], (z, x)))) rfl (fun c_2 => ?_) (fun c_2 => ?_)
    · exact to_rk 1 15 (c := am_bz (0 : Int32) = true) (r := ((0 : Int32), x)) rfl rfl (by decide)
    · exact to_rk 2 15 (c := am_bz (1 : Int32) = true) (r := ((1 : Int32), x)) rfl rfl (by decide)
def f_X9_has (n : Nat) (v0 : Int32) (v1 : Int32) (x : am_X) : Option (Int32 × am_X) := if ¬ ((v0 >>> (v1 &&& 31)) &&& (1 : Int32)) = (1 : Int32) then (some ((0 : Int32), x)) else (some ((1 : Int32), x))
theorem t_X9_has {n : Nat} {d : Nat} {v0 : Int32} {v1 : Int32} {x z : am_X} {q : Int32 × am_X} (hd : 1 ≤ d) (h : f_X9_has n v0 v1 x = some q) : am_Ev am_PR d 109 [am_I v0, am_I v1] (z, x) (cvI1 z q) := by
  obtain ⟨d, rfl⟩ : ∃ e, d = e + 1 := ⟨d - 1, by omega⟩
  refine to_ev (P := (am_tab pX9_has)) rfl (lv := [(0, am_I v0), (1, am_I v1)]) rfl ?_ q h
  unfold f_X9_has
  refine to_go 4 (pc' := 4) (a' := ([(0, am_I v0), (1, am_I v1)], ([am_I (1 : Int32), am_I (v0 >>> (v1 &&& 31))], (z, x)))) rfl ?_
  refine to_if 3 (c := ¬ ((v0 >>> (v1 &&& 31)) &&& (1 : Int32)) = (1 : Int32)) (p1 := 13) (p2 := 9) (a' := ([(0, am_I v0), (1, am_I v1)], ([], (z, x)))) rfl (fun c_1 => ?_) (fun c_1 => ?_)
  · exact to_rk 1 14 (c := am_bz (0 : Int32) = true) (r := ((0 : Int32), x)) rfl rfl (by decide)
  · exact to_rk 2 14 (c := am_bz (1 : Int32) = true) (r := ((1 : Int32), x)) rfl rfl (by decide)
def f_X9_letter (n : Nat) (i0 : Nat) (v1 : Int32) (x : am_X) : Option (Int32 × am_X) := (f_X9_within n v1 (32 : Int32) (126 : Int32) x).bind fun q1 => if ¬ q1.1 = 0 then (if ¬ (xF q1.2 32 16 i0) = (30 : Int32) then (if am_inB (xF q1.2 32 16 i0) 30 = true then (some ((xF (sF (sA q1.2 57 0 (Int32.toNatClampNeg (xF q1.2 32 16 i0)) (Int8.toInt32 (Int32.toInt8 (Int8.toInt32 (Int32.toInt8 v1))))) 32 16 i0 ((xF q1.2 32 16 i0) + (1 : Int32))) 32 16 i0), (sF (sA q1.2 57 0 (Int32.toNatClampNeg (xF q1.2 32 16 i0)) (Int8.toInt32 (Int32.toInt8 (Int8.toInt32 (Int32.toInt8 v1))))) 32 16 i0 ((xF q1.2 32 16 i0) + (1 : Int32))))) else none) else (some ((-104 : Int32), q1.2))) else (some ((-102 : Int32), q1.2))
theorem t_X9_letter {n : Nat} {d : Nat} {i0 : Nat} {v1 : Int32} {x z : am_X} {q : Int32 × am_X} (hd : 2 ≤ d) (h : f_X9_letter n i0 v1 x = some q) : am_Ev am_PR d 110 [am_R 32 i0, am_I v1] (z, x) (cvI1 z q) := by
  obtain ⟨d, rfl⟩ : ∃ e, d = e + 1 := ⟨d - 1, by omega⟩
  refine to_ev (P := (am_tab pX9_letter)) rfl (lv := [(0, am_R 32 i0), (1, am_I v1)]) rfl ?_ q h
  unfold f_X9_letter
  refine to_cl 4 (lv := [(0, am_R 32 i0), (1, am_I v1)]) (st := []) (M := (z, x)) (cb := (cvI1 z)) rfl (fun q hq => t_X9_within (by omega) hq) (fun q1 => ?_)
  refine to_if 1 (c := ¬ q1.1 = 0) (p1 := 14) (p2 := 11) (a' := ([(0, am_R 32 i0), (1, am_I v1)], ([], (z, q1.2)))) rfl (fun c_2 => ?_) (fun c_2 => ?_)
  · refine to_if 4 (c := ¬ (xF q1.2 32 16 i0) = (30 : Int32)) (p1 := 26) (p2 := 23) (a' := ([(0, am_R 32 i0), (1, am_I v1)], ([], (z, q1.2)))) rfl (fun c_3 => ?_) (fun c_3 => ?_)
    · refine to_go 4 (pc' := 34) (a' := ([(0, am_R 32 i0), (1, am_I v1)], ([am_I (xF q1.2 32 16 i0), am_R 57 0], (z, q1.2)))) rfl ?_
      refine to_gd 2 36 (c := am_inB (xF q1.2 32 16 i0) 30 = true) (pc' := 37) (a' := ([(0, am_R 32 i0), (1, am_I v1)], ([], (z, (sA q1.2 57 0 (Int32.toNatClampNeg (xF q1.2 32 16 i0)) (Int8.toInt32 (Int32.toInt8 (Int8.toInt32 (Int32.toInt8 v1))))))))) rfl rfl (fun c_4 => ?_)
      refine to_go 4 (pc' := 43) (a' := ([(0, am_R 32 i0), (1, am_I v1)], ([am_I (1 : Int32), am_I (xF q1.2 32 16 i0), am_R 32 i0], (z, (sA q1.2 57 0 (Int32.toNatClampNeg (xF q1.2 32 16 i0)) (Int8.toInt32 (Int32.toInt8 (Int8.toInt32 (Int32.toInt8 v1))))))))) rfl ?_
      refine to_go 4 (pc' := 51) (a' := ([(0, am_R 32 i0), (1, am_I v1)], ([am_I (xF (sF (sA q1.2 57 0 (Int32.toNatClampNeg (xF q1.2 32 16 i0)) (Int8.toInt32 (Int32.toInt8 (Int8.toInt32 (Int32.toInt8 v1))))) 32 16 i0 ((xF q1.2 32 16 i0) + (1 : Int32))) 32 16 i0)], (z, (sF (sA q1.2 57 0 (Int32.toNatClampNeg (xF q1.2 32 16 i0)) (Int8.toInt32 (Int32.toInt8 (Int8.toInt32 (Int32.toInt8 v1))))) 32 16 i0 ((xF q1.2 32 16 i0) + (1 : Int32))))))) rfl ?_
      exact to_rt 1 (r := ((xF (sF (sA q1.2 57 0 (Int32.toNatClampNeg (xF q1.2 32 16 i0)) (Int8.toInt32 (Int32.toInt8 (Int8.toInt32 (Int32.toInt8 v1))))) 32 16 i0 ((xF q1.2 32 16 i0) + (1 : Int32))) 32 16 i0), (sF (sA q1.2 57 0 (Int32.toNatClampNeg (xF q1.2 32 16 i0)) (Int8.toInt32 (Int32.toInt8 (Int8.toInt32 (Int32.toInt8 v1))))) 32 16 i0 ((xF q1.2 32 16 i0) + (1 : Int32))))) rfl
    · exact to_rt 2 (r := ((-104 : Int32), q1.2)) rfl
  · exact to_rt 2 (r := ((-102 : Int32), q1.2)) rfl
def f_X9_blank (n : Nat) (i0 : Nat) (x : am_X) : Option (Int32 × am_X) := some ((xF x 32 16 i0), (sF x 32 16 i0 (0 : Int32)))
theorem t_X9_blank {n : Nat} {d : Nat} {i0 : Nat} {x z : am_X} {q : Int32 × am_X} (hd : 1 ≤ d) (h : f_X9_blank n i0 x = some q) : am_Ev am_PR d 111 [am_R 32 i0] (z, x) (cvI1 z q) := by
  obtain ⟨d, rfl⟩ : ∃ e, d = e + 1 := ⟨d - 1, by omega⟩
  refine to_ev (P := (am_tab pX9_blank)) rfl (lv := [(0, am_R 32 i0)]) rfl ?_ q h
  unfold f_X9_blank
  refine to_go 4 (pc' := 6) (a' := ([(1, am_I (xF x 32 16 i0)), (0, am_R 32 i0)], ([am_R 32 i0], (z, x)))) rfl ?_
  exact to_rt 4 (r := ((xF x 32 16 i0), (sF x 32 16 i0 (0 : Int32)))) rfl
def b_X9_sortState_75 (n : Nat) (i0 : Nat) (v2 : Int32) (x : am_X) : Option (Int32 × am_X) := if ¬ v2 = (59 : Int32) then (some ((-1 : Int32), x)) else (if ¬ (xF x 32 20 i0) = (3 : Int32) then (some ((-1 : Int32), x)) else (some ((5 : Int32), x)))
theorem tb_X9_sortState_75 {n : Nat} {d : Nat} {z : am_X} (hd : 1 ≤ d) (i0 : Nat) (v2 : Int32) (x : am_X) : am_To d (am_tab pX9_sortState) 75 ([(0, am_R 32 i0), (2, am_I v2)], ([], (z, x))) (cvI1 z) (b_X9_sortState_75 n i0 v2 x) := by
  unfold b_X9_sortState_75
  refine to_if 3 (c := ¬ v2 = (59 : Int32)) (p1 := 93) (p2 := 81) (a' := ([(0, am_R 32 i0), (2, am_I v2)], ([], (z, x)))) rfl (fun c_1 => ?_) (fun c_1 => ?_)
  · exact to_rt 2 (r := ((-1 : Int32), x)) rfl
  · refine to_if 4 (c := ¬ (xF x 32 20 i0) = (3 : Int32)) (p1 := 93) (p2 := 89) (a' := ([(0, am_R 32 i0), (2, am_I v2)], ([], (z, x)))) rfl (fun c_2 => ?_) (fun c_2 => ?_)
    · exact to_rt 2 (r := ((-1 : Int32), x)) rfl
    · exact to_rt 3 (r := ((5 : Int32), x)) rfl
def b_X9_sortState_42 (n : Nat) (i0 : Nat) (v1 : Int32) (v2 : Int32) (x : am_X) : Option (Int32 × am_X) := if ¬ v1 = (3 : Int32) then (if ¬ v2 = (47 : Int32) then (b_X9_sortState_75 n i0 v2 x) else (if (3 : Int32) ≤ (xF x 32 20 i0) then (b_X9_sortState_75 n i0 v2 x) else (some ((0 : Int32), (sF x 32 20 i0 ((xF x 32 20 i0) + (1 : Int32))))))) else (some ((-1 : Int32), x))
theorem tb_X9_sortState_42 {n : Nat} {d : Nat} {z : am_X} (hd : 1 ≤ d) (i0 : Nat) (v1 : Int32) (v2 : Int32) (x : am_X) : am_To d (am_tab pX9_sortState) 42 ([(0, am_R 32 i0), (1, am_I v1), (2, am_I v2)], ([], (z, x))) (cvI1 z) (b_X9_sortState_42 n i0 v1 v2 x) := by
  unfold b_X9_sortState_42
  refine to_if 3 (c := ¬ v1 = (3 : Int32)) (p1 := 49) (p2 := 47) (a' := ([(0, am_R 32 i0), (1, am_I v1), (2, am_I v2)], ([], (z, x)))) rfl (fun c_1 => ?_) (fun c_1 => ?_)
  · refine to_if 3 (c := ¬ v2 = (47 : Int32)) (p1 := 75) (p2 := 55) (a' := ([(0, am_R 32 i0), (1, am_I v1), (2, am_I v2)], ([], (z, x)))) rfl (fun c_2 => ?_) (fun c_2 => ?_)
    · refine to_fg [0, 2] (lv' := [(0, am_R 32 i0), (2, am_I v2)]) rfl ?_
      exact tb_X9_sortState_75 (by omega)  i0 v2 x
    · refine to_if 4 (c := (3 : Int32) ≤ (xF x 32 20 i0)) (p1 := 75) (p2 := 63) (a' := ([(0, am_R 32 i0), (1, am_I v1), (2, am_I v2)], ([], (z, x)))) rfl (fun c_3 => ?_) (fun c_3 => ?_)
      · refine to_fg [0, 2] (lv' := [(0, am_R 32 i0), (2, am_I v2)]) rfl ?_
        exact tb_X9_sortState_75 (by omega)  i0 v2 x
      · refine to_go 4 (pc' := 69) (a' := ([(0, am_R 32 i0), (1, am_I v1), (2, am_I v2)], ([am_I (1 : Int32), am_I (xF x 32 20 i0), am_R 32 i0], (z, x)))) rfl ?_
        exact to_rt 4 (r := ((0 : Int32), (sF x 32 20 i0 ((xF x 32 20 i0) + (1 : Int32))))) rfl
  · exact to_rt 2 (r := ((-1 : Int32), x)) rfl
def f_X9_sortState (n : Nat) (i0 : Nat) (v1 : Int32) (v2 : Int32) (v3 : Int32) (x : am_X) : Option (Int32 × am_X) := (f_X9_within n v3 (0 : Int32) (2 : Int32) x).bind fun q1 => if q1.1 = 0 then (b_X9_sortState_42 n i0 v1 v2 q1.2) else (if am_inB (xF q1.2 32 20 i0) 4 = true then ((f_X9_has n (xA q1.2 64 0 (Int32.toNatClampNeg (xF q1.2 32 20 i0))) v3 q1.2).bind fun q4 => if ¬ q4.1 = 0 then (b_X9_sortState_42 n i0 v1 v2 q4.2) else (if am_inB (xF q4.2 32 20 i0) 4 = true then (if am_inB (xF q4.2 32 20 i0) 4 = true then (some ((4 : Int32), (sA q4.2 64 0 (Int32.toNatClampNeg (xF q4.2 32 20 i0)) ((xA q4.2 64 0 (Int32.toNatClampNeg (xF q4.2 32 20 i0))) ||| ((1 : Int32) <<< (v3 &&& 31)))))) else none) else none)) else none)
theorem t_X9_sortState {n : Nat} {d : Nat} {i0 : Nat} {v1 : Int32} {v2 : Int32} {v3 : Int32} {x z : am_X} {q : Int32 × am_X} (hd : 2 ≤ d) (h : f_X9_sortState n i0 v1 v2 v3 x = some q) : am_Ev am_PR d 113 [am_R 32 i0, am_I v1, am_I v2, am_I v3] (z, x) (cvI1 z q) := by
  obtain ⟨d, rfl⟩ : ∃ e, d = e + 1 := ⟨d - 1, by omega⟩
  refine to_ev (P := (am_tab pX9_sortState)) rfl (lv := [(0, am_R 32 i0), (1, am_I v1), (2, am_I v2), (3, am_I v3)]) rfl ?_ q h
  unfold f_X9_sortState
  refine to_cl 4 (lv := [(0, am_R 32 i0), (1, am_I v1), (2, am_I v2), (3, am_I v3)]) (st := []) (M := (z, x)) (cb := (cvI1 z)) rfl (fun q hq => t_X9_within (by omega) hq) (fun q1 => ?_)
  refine to_if 1 (c := q1.1 = 0) (p1 := 42) (p2 := 9) (a' := ([(0, am_R 32 i0), (1, am_I v1), (2, am_I v2), (3, am_I v3)], ([], (z, q1.2)))) rfl (fun c_2 => ?_) (fun c_2 => ?_)
  · refine to_fg [0, 1, 2] (lv' := [(0, am_R 32 i0), (1, am_I v1), (2, am_I v2)]) rfl ?_
    exact tb_X9_sortState_42 (by omega)  i0 v1 v2 q1.2
  · refine to_go 4 (pc' := 17) (a' := ([(0, am_R 32 i0), (1, am_I v1), (2, am_I v2), (3, am_I v3)], ([am_I (xF q1.2 32 20 i0), am_R 64 0], (z, q1.2)))) rfl ?_
    refine to_gd 0 17 (c := am_inB (xF q1.2 32 20 i0) 4 = true) (pc' := 18) (a' := ([(0, am_R 32 i0), (1, am_I v1), (2, am_I v2), (3, am_I v3)], ([am_I (xA q1.2 64 0 (Int32.toNatClampNeg (xF q1.2 32 20 i0)))], (z, q1.2)))) rfl rfl (fun c_3 => ?_)
    refine to_cl 2 (lv := [(0, am_R 32 i0), (1, am_I v1), (2, am_I v2), (3, am_I v3)]) (st := []) (M := (z, q1.2)) (cb := (cvI1 z)) rfl (fun q hq => t_X9_has (by omega) hq) (fun q4 => ?_)
    refine to_if 1 (c := ¬ q4.1 = 0) (p1 := 42) (p2 := 25) (a' := ([(0, am_R 32 i0), (1, am_I v1), (2, am_I v2), (3, am_I v3)], ([], (z, q4.2)))) rfl (fun c_5 => ?_) (fun c_5 => ?_)
    · refine to_fg [0, 1, 2] (lv' := [(0, am_R 32 i0), (1, am_I v1), (2, am_I v2)]) rfl ?_
      exact tb_X9_sortState_42 (by omega)  i0 v1 v2 q4.2
    · refine to_go 4 (pc' := 33) (a' := ([(0, am_R 32 i0), (1, am_I v1), (2, am_I v2), (3, am_I v3)], ([am_I (xF q4.2 32 20 i0), am_R 64 0], (z, q4.2)))) rfl ?_
      refine to_gd 1 34 (c := am_inB (xF q4.2 32 20 i0) 4 = true) (pc' := 35) (a' := ([(0, am_R 32 i0), (1, am_I v1), (2, am_I v2), (3, am_I v3)], ([am_I (xA q4.2 64 0 (Int32.toNatClampNeg (xF q4.2 32 20 i0))), am_I (xF q4.2 32 20 i0), am_R 64 0], (z, q4.2)))) rfl rfl (fun c_6 => ?_)
      refine to_go 4 (pc' := 39) (a' := ([(0, am_R 32 i0), (1, am_I v1), (2, am_I v2), (3, am_I v3)], ([am_I ((xA q4.2 64 0 (Int32.toNatClampNeg (xF q4.2 32 20 i0))) ||| ((1 : Int32) <<< (v3 &&& 31))), am_I (xF q4.2 32 20 i0), am_R 64 0], (z, q4.2)))) rfl ?_
      refine to_gd 0 39 (c := am_inB (xF q4.2 32 20 i0) 4 = true) (pc' := 40) (a' := ([(0, am_R 32 i0), (1, am_I v1), (2, am_I v2), (3, am_I v3)], ([], (z, (sA q4.2 64 0 (Int32.toNatClampNeg (xF q4.2 32 20 i0)) ((xA q4.2 64 0 (Int32.toNatClampNeg (xF q4.2 32 20 i0))) ||| ((1 : Int32) <<< (v3 &&& 31)))))))) rfl rfl (fun c_7 => ?_)
      exact to_rt 2 (r := ((4 : Int32), (sA q4.2 64 0 (Int32.toNatClampNeg (xF q4.2 32 20 i0)) ((xA q4.2 64 0 (Int32.toNatClampNeg (xF q4.2 32 20 i0))) ||| ((1 : Int32) <<< (v3 &&& 31)))))) rfl
def b_X9_nextState_118 (n : Nat) (i0 : Nat) (v1 : Int32) (v2 : Int32) (v3 : Int32) (x : am_X) : Option (Int32 × am_X) := (f_X9_sortState n i0 v1 v2 v3 x).bind fun q1 => some (q1.1, q1.2)
theorem tb_X9_nextState_118 {n : Nat} {d : Nat} {z : am_X} (hd : 2 ≤ d) (i0 : Nat) (v1 : Int32) (v2 : Int32) (v3 : Int32) (x : am_X) : am_To d (am_tab pX9_nextState) 118 ([(0, am_R 32 i0), (1, am_I v1), (2, am_I v2), (3, am_I v3)], ([], (z, x))) (cvI1 z) (b_X9_nextState_118 n i0 v1 v2 v3 x) := by
  unfold b_X9_nextState_118
  refine to_go 4 (pc' := 122) (a' := ([(0, am_R 32 i0), (1, am_I v1), (2, am_I v2), (3, am_I v3)], ([am_I v3, am_I v2, am_I v1, am_R 32 i0], (z, x)))) rfl ?_
  refine to_cl 1 (lv := [(0, am_R 32 i0), (1, am_I v1), (2, am_I v2), (3, am_I v3)]) (st := []) (M := (z, x)) (cb := (cvI1 z)) rfl (fun q hq => t_X9_sortState (by omega) hq) (fun q1 => ?_)
  exact to_rt 1 (r := (q1.1, q1.2)) rfl
def f_X9_nextState (n : Nat) (i0 : Nat) (v1 : Int32) (v2 : Int32) (x : am_X) : Option (Int32 × am_X) := if v1 = (0 : Int32) then (if am_inB (xF x 32 20 i0) 4 = true then ((f_X9_within n (v2 - (48 : Int32)) (1 : Int32) (9 : Int32) (sA x 62 0 (Int32.toNatClampNeg (xF x 32 20 i0)) (v2 - (48 : Int32)))).bind fun q3 => if q3.1 = 0 then (some ((-1 : Int32), q3.2)) else (some ((1 : Int32), q3.2))) else none) else if v1 = (1 : Int32) then (if am_inB (xF x 32 20 i0) 4 = true then ((f_X9_within n (v2 - (48 : Int32)) (0 : Int32) (9 : Int32) (sA x 63 0 (Int32.toNatClampNeg (xF x 32 20 i0)) (v2 - (48 : Int32)))).bind fun q7 => if q7.1 = 0 then (some ((-1 : Int32), q7.2)) else (some ((2 : Int32), q7.2))) else none) else if v1 = (2 : Int32) then (if am_inB (xF x 32 20 i0) 4 = true then (if ¬ v2 = (58 : Int32) then (some ((-1 : Int32), (sA x 64 0 (Int32.toNatClampNeg (xF x 32 20 i0)) (0 : Int32)))) else (some ((3 : Int32), (sA x 64 0 (Int32.toNatClampNeg (xF x 32 20 i0)) (0 : Int32))))) else none) else if v1 = (3 : Int32) then (b_X9_nextState_118 n i0 v1 v2 (v2 - (48 : Int32)) x) else if v1 = (4 : Int32) then (b_X9_nextState_118 n i0 v1 v2 (v2 - (48 : Int32)) x) else if v1 = (5 : Int32) then ((f_X9_within n (v2 - (48 : Int32)) (1 : Int32) (9 : Int32) (sF x 32 21 i0 (v2 - (48 : Int32)))).bind fun q15 => if q15.1 = 0 then (some ((-1 : Int32), q15.2)) else (some ((6 : Int32), q15.2))) else (some ((-1 : Int32), x))
theorem t_X9_nextState {n : Nat} {d : Nat} {i0 : Nat} {v1 : Int32} {v2 : Int32} {x z : am_X} {q : Int32 × am_X} (hd : 3 ≤ d) (h : f_X9_nextState n i0 v1 v2 x = some q) : am_Ev am_PR d 112 [am_R 32 i0, am_I v1, am_I v2] (z, x) (cvI1 z q) := by
  obtain ⟨d, rfl⟩ : ∃ e, d = e + 1 := ⟨d - 1, by omega⟩
  refine to_ev (P := (am_tab pX9_nextState)) rfl (lv := [(0, am_R 32 i0), (1, am_I v1), (2, am_I v2)]) rfl ?_ q h
  unfold f_X9_nextState
  refine to_go 4 (pc' := 5) (a' := ([(3, am_I (v2 - (48 : Int32))), (0, am_R 32 i0), (1, am_I v1), (2, am_I v2)], ([], (z, x)))) rfl ?_
  refine to_si 2 (x := v1) (c := (0 : Int32)) (t := 44) (a' := ([(3, am_I (v2 - (48 : Int32))), (0, am_R 32 i0), (1, am_I v1), (2, am_I v2)], ([], (z, x)))) rfl (by decide) (fun c_1 => ?_) (fun c_1 => ?_)
  · refine to_go 4 (pc' := 52) (a' := ([(3, am_I (v2 - (48 : Int32))), (0, am_R 32 i0), (1, am_I v1), (2, am_I v2)], ([am_I (xF x 32 20 i0), am_R 62 0], (z, x)))) rfl ?_
    refine to_gd 1 53 (c := am_inB (xF x 32 20 i0) 4 = true) (pc' := 54) (a' := ([(3, am_I (v2 - (48 : Int32))), (0, am_R 32 i0), (1, am_I v1), (2, am_I v2)], ([], (z, (sA x 62 0 (Int32.toNatClampNeg (xF x 32 20 i0)) (v2 - (48 : Int32))))))) rfl rfl (fun c_2 => ?_)
    refine to_cl 4 (lv := [(3, am_I (v2 - (48 : Int32))), (0, am_R 32 i0), (1, am_I v1), (2, am_I v2)]) (st := []) (M := (z, (sA x 62 0 (Int32.toNatClampNeg (xF x 32 20 i0)) (v2 - (48 : Int32))))) (cb := (cvI1 z)) rfl (fun q hq => t_X9_within (by omega) hq) (fun q3 => ?_)
    refine to_if 1 (c := q3.1 = 0) (p1 := 68) (p2 := 64) (a' := ([(3, am_I (v2 - (48 : Int32))), (0, am_R 32 i0), (1, am_I v1), (2, am_I v2)], ([], (z, q3.2)))) rfl (fun c_4 => ?_) (fun c_4 => ?_)
    · exact to_rt 2 (r := ((-1 : Int32), q3.2)) rfl
    · exact to_rt 3 (r := ((1 : Int32), q3.2)) rfl
  refine to_si 2 (x := v1) (c := (1 : Int32)) (t := 70) (a' := ([(3, am_I (v2 - (48 : Int32))), (0, am_R 32 i0), (1, am_I v1), (2, am_I v2)], ([], (z, x)))) rfl (by decide) (fun c_5 => ?_) (fun c_5 => ?_)
  · refine to_go 4 (pc' := 78) (a' := ([(3, am_I (v2 - (48 : Int32))), (0, am_R 32 i0), (1, am_I v1), (2, am_I v2)], ([am_I (xF x 32 20 i0), am_R 63 0], (z, x)))) rfl ?_
    refine to_gd 1 79 (c := am_inB (xF x 32 20 i0) 4 = true) (pc' := 80) (a' := ([(3, am_I (v2 - (48 : Int32))), (0, am_R 32 i0), (1, am_I v1), (2, am_I v2)], ([], (z, (sA x 63 0 (Int32.toNatClampNeg (xF x 32 20 i0)) (v2 - (48 : Int32))))))) rfl rfl (fun c_6 => ?_)
    refine to_cl 4 (lv := [(3, am_I (v2 - (48 : Int32))), (0, am_R 32 i0), (1, am_I v1), (2, am_I v2)]) (st := []) (M := (z, (sA x 63 0 (Int32.toNatClampNeg (xF x 32 20 i0)) (v2 - (48 : Int32))))) (cb := (cvI1 z)) rfl (fun q hq => t_X9_within (by omega) hq) (fun q7 => ?_)
    refine to_if 1 (c := q7.1 = 0) (p1 := 94) (p2 := 90) (a' := ([(3, am_I (v2 - (48 : Int32))), (0, am_R 32 i0), (1, am_I v1), (2, am_I v2)], ([], (z, q7.2)))) rfl (fun c_8 => ?_) (fun c_8 => ?_)
    · exact to_rt 2 (r := ((-1 : Int32), q7.2)) rfl
    · exact to_rt 3 (r := ((2 : Int32), q7.2)) rfl
  refine to_si 2 (x := v1) (c := (2 : Int32)) (t := 96) (a' := ([(3, am_I (v2 - (48 : Int32))), (0, am_R 32 i0), (1, am_I v1), (2, am_I v2)], ([], (z, x)))) rfl (by decide) (fun c_9 => ?_) (fun c_9 => ?_)
  · refine to_go 4 (pc' := 104) (a' := ([(3, am_I (v2 - (48 : Int32))), (0, am_R 32 i0), (1, am_I v1), (2, am_I v2)], ([am_I (xF x 32 20 i0), am_R 64 0], (z, x)))) rfl ?_
    refine to_gd 1 105 (c := am_inB (xF x 32 20 i0) 4 = true) (pc' := 106) (a' := ([(3, am_I (v2 - (48 : Int32))), (0, am_R 32 i0), (1, am_I v1), (2, am_I v2)], ([], (z, (sA x 64 0 (Int32.toNatClampNeg (xF x 32 20 i0)) (0 : Int32)))))) rfl rfl (fun c_10 => ?_)
    refine to_if 3 (c := ¬ v2 = (58 : Int32)) (p1 := 116) (p2 := 112) (a' := ([(3, am_I (v2 - (48 : Int32))), (0, am_R 32 i0), (1, am_I v1), (2, am_I v2)], ([], (z, (sA x 64 0 (Int32.toNatClampNeg (xF x 32 20 i0)) (0 : Int32)))))) rfl (fun c_11 => ?_) (fun c_11 => ?_)
    · exact to_rt 2 (r := ((-1 : Int32), (sA x 64 0 (Int32.toNatClampNeg (xF x 32 20 i0)) (0 : Int32)))) rfl
    · exact to_rt 3 (r := ((3 : Int32), (sA x 64 0 (Int32.toNatClampNeg (xF x 32 20 i0)) (0 : Int32)))) rfl
  refine to_si 2 (x := v1) (c := (3 : Int32)) (t := 118) (a' := ([(3, am_I (v2 - (48 : Int32))), (0, am_R 32 i0), (1, am_I v1), (2, am_I v2)], ([], (z, x)))) rfl (by decide) (fun c_12 => ?_) (fun c_12 => ?_)
  · refine to_fg [1, 2, 3, 0] (lv' := [(0, am_R 32 i0), (1, am_I v1), (2, am_I v2), (3, am_I (v2 - (48 : Int32)))]) rfl ?_
    exact tb_X9_nextState_118 (by omega)  i0 v1 v2 (v2 - (48 : Int32)) x
  refine to_si 2 (x := v1) (c := (4 : Int32)) (t := 118) (a' := ([(3, am_I (v2 - (48 : Int32))), (0, am_R 32 i0), (1, am_I v1), (2, am_I v2)], ([], (z, x)))) rfl (by decide) (fun c_13 => ?_) (fun c_13 => ?_)
  · refine to_fg [1, 2, 3, 0] (lv' := [(0, am_R 32 i0), (1, am_I v1), (2, am_I v2), (3, am_I (v2 - (48 : Int32)))]) rfl ?_
    exact tb_X9_nextState_118 (by omega)  i0 v1 v2 (v2 - (48 : Int32)) x
  refine to_si 2 (x := v1) (c := (5 : Int32)) (t := 126) (a' := ([(3, am_I (v2 - (48 : Int32))), (0, am_R 32 i0), (1, am_I v1), (2, am_I v2)], ([], (z, x)))) rfl (by decide) (fun c_14 => ?_) (fun c_14 => ?_)
  · refine to_go 4 (pc' := 132) (a' := ([(3, am_I (v2 - (48 : Int32))), (0, am_R 32 i0), (1, am_I v1), (2, am_I v2)], ([am_I (v2 - (48 : Int32))], (z, (sF x 32 21 i0 (v2 - (48 : Int32))))))) rfl ?_
    refine to_cl 3 (lv := [(3, am_I (v2 - (48 : Int32))), (0, am_R 32 i0), (1, am_I v1), (2, am_I v2)]) (st := []) (M := (z, (sF x 32 21 i0 (v2 - (48 : Int32))))) (cb := (cvI1 z)) rfl (fun q hq => t_X9_within (by omega) hq) (fun q15 => ?_)
    refine to_if 1 (c := q15.1 = 0) (p1 := 146) (p2 := 141) (a' := ([(3, am_I (v2 - (48 : Int32))), (0, am_R 32 i0), (1, am_I v1), (2, am_I v2)], ([], (z, q15.2)))) rfl (fun c_16 => ?_) (fun c_16 => ?_)
    · exact to_rt 2 (r := ((-1 : Int32), q15.2)) rfl
    · exact to_rt 3 (r := ((6 : Int32), q15.2)) rfl
  refine to_sd 2 (x := v1) (cs := [0, 1, 2, 3, 4, 5]) (a' := ([(3, am_I (v2 - (48 : Int32))), (0, am_R 32 i0), (1, am_I v1), (2, am_I v2)], ([], (z, x)))) rfl (by decide) (List.forall_mem_cons.mpr ⟨c_1, List.forall_mem_cons.mpr ⟨c_5, List.forall_mem_cons.mpr ⟨c_9, List.forall_mem_cons.mpr ⟨c_12, List.forall_mem_cons.mpr ⟨c_13, List.forall_mem_cons.mpr ⟨c_14, fun _ h => absurd h List.not_mem_nil⟩⟩⟩⟩⟩⟩) ?_
  exact to_rt 2 (r := ((-1 : Int32), x)) rfl
