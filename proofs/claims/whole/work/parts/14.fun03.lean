def f_X7_hasRoom (n : Nat) (i0 : Nat) (x : am_X) : Option (Int32 × am_X) := if (4 : Int32) ≤ (xF x 3 1 i0) then (some ((0 : Int32), x)) else (some ((1 : Int32), x))
theorem t_X7_hasRoom {n : Nat} {d : Nat} {i0 : Nat} {x z : am_X} {q : Int32 × am_X} (hd : 1 ≤ d) (h : f_X7_hasRoom n i0 x = some q) : am_Ev am_PR d 56 [am_R 3 i0] (x, z) (cvI0 z q) := by
  obtain ⟨d, rfl⟩ : ∃ e, d = e + 1 := ⟨d - 1, by omega⟩
  refine to_ev (P := (am_tab pX7_hasRoom)) rfl (lv := [(0, am_R 3 i0)]) rfl ?_ q h
  unfold f_X7_hasRoom
  refine to_if 4 (c := (4 : Int32) ≤ (xF x 3 1 i0)) (p1 := 12) (p2 := 8) (a' := ([(0, am_R 3 i0)], ([], (x, z)))) rfl (fun c_1 => ?_) (fun c_1 => ?_)
  · exact to_rk 1 13 (c := am_bz (0 : Int32) = true) (r := ((0 : Int32), x)) rfl rfl (by decide)
  · exact to_rk 2 13 (c := am_bz (1 : Int32) = true) (r := ((1 : Int32), x)) rfl rfl (by decide)
def f_X7_isKnown (n : Nat) (i0 : Nat) (v1 : Int32) (x : am_X) : Option (Int32 × am_X) := if v1 < 0 then (some ((0 : Int32), x)) else (if (xF x 3 1 i0) ≤ v1 then (some ((0 : Int32), x)) else (if (4 : Int32) ≤ v1 then (some ((0 : Int32), x)) else (some ((1 : Int32), x))))
theorem t_X7_isKnown {n : Nat} {d : Nat} {i0 : Nat} {v1 : Int32} {x z : am_X} {q : Int32 × am_X} (hd : 1 ≤ d) (h : f_X7_isKnown n i0 v1 x = some q) : am_Ev am_PR d 57 [am_R 3 i0, am_I v1] (x, z) (cvI0 z q) := by
  obtain ⟨d, rfl⟩ : ∃ e, d = e + 1 := ⟨d - 1, by omega⟩
  refine to_ev (P := (am_tab pX7_isKnown)) rfl (lv := [(0, am_R 3 i0), (1, am_I v1)]) rfl ?_ q h
  unfold f_X7_isKnown
  refine to_if 2 (c := v1 < 0) (p1 := 21) (p2 := 4) (a' := ([(0, am_R 3 i0), (1, am_I v1)], ([], (x, z)))) rfl (fun c_1 => ?_) (fun c_1 => ?_)
  · exact to_rk 1 22 (c := am_bz (0 : Int32) = true) (r := ((0 : Int32), x)) rfl rfl (by decide)
  · refine to_if 4 (c := (xF x 3 1 i0) ≤ v1) (p1 := 21) (p2 := 12) (a' := ([(0, am_R 3 i0), (1, am_I v1)], ([], (x, z)))) rfl (fun c_2 => ?_) (fun c_2 => ?_)
    · exact to_rk 1 22 (c := am_bz (0 : Int32) = true) (r := ((0 : Int32), x)) rfl rfl (by decide)
    · refine to_if 3 (c := (4 : Int32) ≤ v1) (p1 := 21) (p2 := 17) (a' := ([(0, am_R 3 i0), (1, am_I v1)], ([], (x, z)))) rfl (fun c_3 => ?_) (fun c_3 => ?_)
      · exact to_rk 1 22 (c := am_bz (0 : Int32) = true) (r := ((0 : Int32), x)) rfl rfl (by decide)
      · exact to_rk 2 22 (c := am_bz (1 : Int32) = true) (r := ((1 : Int32), x)) rfl rfl (by decide)
def b_X7_one_18 (n : Nat) (i0 : Nat) (x : am_X) : Option (Nat × am_X) := some ((4 * i0 + (Int32.toNatClampNeg (0 : Int32))), x)
theorem tb_X7_one_18 {n : Nat} {d : Nat} {z : am_X} (hd : 0 ≤ d) (i0 : Nat) (x : am_X) : am_To d (am_tab pX7_one) 18 ([(0, am_R 3 i0)], ([], (x, z))) (cvA0 4 z) (b_X7_one_18 n i0 x) := by
  unfold b_X7_one_18
  refine to_gk 3 23 (c := am_inB (0 : Int32) 4 = true) (pc' := 24) (a' := ([(0, am_R 3 i0)], ([am_R 4 (4 * i0 + (Int32.toNatClampNeg (0 : Int32)))], (x, z)))) rfl rfl (by decide) ?_
  exact to_rt 1 (r := ((4 * i0 + (Int32.toNatClampNeg (0 : Int32))), x)) rfl
def f_X7_one (n : Nat) (i0 : Nat) (v1 : Int32) (x : am_X) : Option (Nat × am_X) := if v1 < 0 then (b_X7_one_18 n i0 x) else (if (4 : Int32) ≤ v1 then (b_X7_one_18 n i0 x) else (if am_inB v1 4 = true then (some ((4 * i0 + (Int32.toNatClampNeg v1)), x)) else none))
theorem t_X7_one {n : Nat} {d : Nat} {i0 : Nat} {v1 : Int32} {x z : am_X} {q : Nat × am_X} (hd : 1 ≤ d) (h : f_X7_one n i0 v1 x = some q) : am_Ev am_PR d 59 [am_R 3 i0, am_I v1] (x, z) (cvA0 4 z q) := by
  obtain ⟨d, rfl⟩ : ∃ e, d = e + 1 := ⟨d - 1, by omega⟩
  refine to_ev (P := (am_tab pX7_one)) rfl (lv := [(0, am_R 3 i0), (1, am_I v1)]) rfl ?_ q h
  unfold f_X7_one
  refine to_if 2 (c := v1 < 0) (p1 := 18) (p2 := 4) (a' := ([(0, am_R 3 i0), (1, am_I v1)], ([], (x, z)))) rfl (fun c_1 => ?_) (fun c_1 => ?_)
  · refine to_fg [0] (lv' := [(0, am_R 3 i0)]) rfl ?_
    exact tb_X7_one_18 (by omega)  i0 x
  · refine to_if 3 (c := (4 : Int32) ≤ v1) (p1 := 18) (p2 := 9) (a' := ([(0, am_R 3 i0), (1, am_I v1)], ([], (x, z)))) rfl (fun c_2 => ?_) (fun c_2 => ?_)
    · refine to_fg [0] (lv' := [(0, am_R 3 i0)]) rfl ?_
      exact tb_X7_one_18 (by omega)  i0 x
    · refine to_gd 3 14 (c := am_inB v1 4 = true) (pc' := 15) (a' := ([(0, am_R 3 i0), (1, am_I v1)], ([am_R 4 (4 * i0 + (Int32.toNatClampNeg v1))], (x, z)))) rfl rfl (fun c_3 => ?_)
      exact to_rt 2 (r := ((4 * i0 + (Int32.toNatClampNeg v1)), x)) rfl
def f_X7_isHere (n : Nat) (i0 : Nat) (v1 : Int32) (x : am_X) : Option (Int32 × am_X) := (f_X7_isKnown n i0 v1 x).bind fun q1 => if q1.1 = 0 then (some ((0 : Int32), q1.2)) else ((f_X7_one n i0 v1 q1.2).bind fun q3 => if ¬ (xF q3.2 4 5 q3.1) = 0 then (some ((0 : Int32), q3.2)) else (some ((1 : Int32), q3.2)))
theorem t_X7_isHere {n : Nat} {d : Nat} {i0 : Nat} {v1 : Int32} {x z : am_X} {q : Int32 × am_X} (hd : 2 ≤ d) (h : f_X7_isHere n i0 v1 x = some q) : am_Ev am_PR d 58 [am_R 3 i0, am_I v1] (x, z) (cvI0 z q) := by
  obtain ⟨d, rfl⟩ : ∃ e, d = e + 1 := ⟨d - 1, by omega⟩
  refine to_ev (P := (am_tab pX7_isHere)) rfl (lv := [(0, am_R 3 i0), (1, am_I v1)]) rfl ?_ q h
  unfold f_X7_isHere
  refine to_cl 3 (lv := [(0, am_R 3 i0), (1, am_I v1)]) (st := []) (M := (x, z)) (cb := (cvI0 z)) rfl (fun q hq => t_X7_isKnown (by omega) hq) (fun q1 => ?_)
  refine to_if 1 (c := q1.1 = 0) (p1 := 23) (p2 := 8) (a' := ([(0, am_R 3 i0), (1, am_I v1)], ([], (q1.2, z)))) rfl (fun c_2 => ?_) (fun c_2 => ?_)
  · exact to_rk 1 24 (c := am_bz (0 : Int32) = true) (r := ((0 : Int32), q1.2)) rfl rfl (by decide)
  · refine to_cl 3 (lv := [(0, am_R 3 i0), (1, am_I v1)]) (st := []) (M := (q1.2, z)) (cb := (cvA0 4 z)) rfl (fun q hq => t_X7_one (by omega) hq) (fun q3 => ?_)
    refine to_if 2 (c := ¬ (xF q3.2 4 5 q3.1) = 0) (p1 := 23) (p2 := 19) (a' := ([(0, am_R 3 i0), (1, am_I v1)], ([], (q3.2, z)))) rfl (fun c_4 => ?_) (fun c_4 => ?_)
    · exact to_rk 1 24 (c := am_bz (0 : Int32) = true) (r := ((0 : Int32), q3.2)) rfl rfl (by decide)
    · exact to_rk 2 24 (c := am_bz (1 : Int32) = true) (r := ((1 : Int32), q3.2)) rfl rfl (by decide)
def f_X7_welcome (n : Nat) (i0 : Nat) (i1 : Nat) (x : am_X) : Option (Int32 × am_X) := (f_X7_one n i0 (xF x 3 1 i0) x).bind fun q1 => (f_X6_begin n q1.1 i1 q1.2).bind fun q2 => some ((xF x 3 1 i0), (sF q2 3 1 i0 ((xF q2 3 1 i0) + (1 : Int32))))
theorem t_X7_welcome {n : Nat} {d : Nat} {i0 : Nat} {i1 : Nat} {x z : am_X} {q : Int32 × am_X} (hd : 2 ≤ d) (h : f_X7_welcome n i0 i1 x = some q) : am_Ev am_PR d 60 [am_R 3 i0, am_R 20 i1] (x, z) (cvI0 z q) := by
  obtain ⟨d, rfl⟩ : ∃ e, d = e + 1 := ⟨d - 1, by omega⟩
  refine to_ev (P := (am_tab pX7_welcome)) rfl (lv := [(0, am_R 3 i0), (1, am_R 20 i1)]) rfl ?_ q h
  unfold f_X7_welcome
  refine to_go 4 (pc' := 6) (a' := ([(2, am_I (xF x 3 1 i0)), (0, am_R 3 i0), (1, am_R 20 i1)], ([am_R 3 i0], (x, z)))) rfl ?_
  refine to_cl 2 (lv := [(2, am_I (xF x 3 1 i0)), (0, am_R 3 i0), (1, am_R 20 i1)]) (st := []) (M := (x, z)) (cb := (cvA0 4 z)) rfl (fun q hq => t_X7_one (by omega) hq) (fun q1 => ?_)
  refine to_cl 2 (lv := [(2, am_I (xF x 3 1 i0)), (0, am_R 3 i0), (1, am_R 20 i1)]) (st := []) (M := (q1.2, z)) (cb := (cvV0 z)) rfl (fun q hq => t_X6_begin (by omega) hq) (fun q2 => ?_)
  refine to_go 4 (pc' := 20) (a' := ([(2, am_I (xF x 3 1 i0)), (0, am_R 3 i0), (1, am_R 20 i1)], ([am_I (1 : Int32), am_I (xF q2 3 1 i0), am_R 3 i0], (q2, z)))) rfl ?_
  exact to_rt 4 (r := ((xF x 3 1 i0), (sF q2 3 1 i0 ((xF q2 3 1 i0) + (1 : Int32))))) rfl
def b_X7_passWeek_12 (n : Nat) : Nat → Nat → Nat → Int32 → am_X → Option (am_X)
  | 0, _, _, _, _ => none
  | k + 1, i0, i1, v2, x => if (xF x 3 1 i0) ≤ v2 then (some x) else ((f_X7_one n i0 v2 x).bind fun q2 => (f_X6_enter n q2.1 (xF q2.2 3 2 i0) i1 q2.2).bind fun q3 => b_X7_passWeek_12 n k i0 i1 (v2 + (1 : Int32)) q3)
theorem tb_X7_passWeek_12 {n : Nat} {d : Nat} {z : am_X} (hd : 3 ≤ d) : ∀ (k : Nat) (i0 : Nat) (i1 : Nat) (v2 : Int32) (x : am_X), am_To d (am_tab pX7_passWeek) 12 ([(0, am_R 3 i0), (1, am_R 2 i1), (2, am_I v2)], ([], (x, z))) (cvV0 z) (b_X7_passWeek_12 n k i0 i1 v2 x) := by
  intro k
  induction k with
  | zero =>
    intro i0 i1 v2 x
    exact to_0
  | succ k ih =>
    intro i0 i1 v2 x
    rw [b_X7_passWeek_12]
    refine to_if 4 (c := (xF x 3 1 i0) ≤ v2) (p1 := 39) (p2 := 20) (a' := ([(0, am_R 3 i0), (1, am_R 2 i1), (2, am_I v2)], ([], (x, z)))) rfl (fun c_1 => ?_) (fun c_1 => ?_)
    · exact to_rt 1 rfl
    · refine to_cl 3 (lv := [(0, am_R 3 i0), (1, am_R 2 i1), (2, am_I v2)]) (st := []) (M := (x, z)) (cb := (cvA0 4 z)) rfl (fun q hq => t_X7_one (by omega) hq) (fun q2 => ?_)
      refine to_cl 4 (lv := [(0, am_R 3 i0), (1, am_R 2 i1), (2, am_I v2)]) (st := []) (M := (q2.2, z)) (cb := (cvV0 z)) rfl (fun q hq => t_X6_enter (by omega) hq) (fun q3 => ?_)
      refine to_go 2 (pc' := 12) (a' := ([(2, am_I (v2 + (1 : Int32))), (0, am_R 3 i0), (1, am_R 2 i1)], ([], (q3, z)))) rfl ?_
      refine to_fg [1, 2, 0] (lv' := [(0, am_R 3 i0), (1, am_R 2 i1), (2, am_I (v2 + (1 : Int32)))]) rfl ?_
      exact ih i0 i1 (v2 + (1 : Int32)) q3
def f_X7_passWeek (n : Nat) (i0 : Nat) (i1 : Nat) (x : am_X) : Option (am_X) := b_X7_passWeek_12 n n i0 i1 (0 : Int32) (sF x 3 2 i0 ((xF x 3 2 i0) + (1 : Int32)))
theorem t_X7_passWeek {n : Nat} {d : Nat} {i0 : Nat} {i1 : Nat} {x z : am_X} {q : am_X} (hd : 4 ≤ d) (h : f_X7_passWeek n i0 i1 x = some q) : am_Ev am_PR d 61 [am_R 3 i0, am_R 2 i1] (x, z) (cvV0 z q) := by
  obtain ⟨d, rfl⟩ : ∃ e, d = e + 1 := ⟨d - 1, by omega⟩
  refine to_ev (P := (am_tab pX7_passWeek)) rfl (lv := [(0, am_R 3 i0), (1, am_R 2 i1)]) rfl ?_ q h
  unfold f_X7_passWeek
  refine to_go 4 (pc' := 6) (a' := ([(0, am_R 3 i0), (1, am_R 2 i1)], ([am_I (1 : Int32), am_I (xF x 3 2 i0), am_R 3 i0], (x, z)))) rfl ?_
  refine to_go 4 (pc' := 12) (a' := ([(2, am_I (0 : Int32)), (0, am_R 3 i0), (1, am_R 2 i1)], ([], ((sF x 3 2 i0 ((xF x 3 2 i0) + (1 : Int32))), z)))) rfl ?_
  refine to_fg [1, 2, 0] (lv' := [(0, am_R 3 i0), (1, am_R 2 i1), (2, am_I (0 : Int32))]) rfl ?_
  exact tb_X7_passWeek_12 (by omega)  n i0 i1 (0 : Int32) (sF x 3 2 i0 ((xF x 3 2 i0) + (1 : Int32)))
def b_X7_dropLapsed_2 (n : Nat) : Nat → Nat → Nat → Int32 → am_X → Option (am_X)
  | 0, _, _, _, _ => none
  | k + 1, i0, i1, v2, x => if (xF x 3 1 i0) ≤ v2 then (some x) else ((f_X7_one n i0 v2 x).bind fun q2 => (f_X6_dropLapsed n q2.1 (xF q2.2 3 2 i0) i1 q2.2).bind fun q3 => b_X7_dropLapsed_2 n k i0 i1 (v2 + (1 : Int32)) q3)
theorem tb_X7_dropLapsed_2 {n : Nat} {d : Nat} {z : am_X} (hd : 2 ≤ d) : ∀ (k : Nat) (i0 : Nat) (i1 : Nat) (v2 : Int32) (x : am_X), am_To d (am_tab pX7_dropLapsed) 2 ([(0, am_R 3 i0), (1, am_R 2 i1), (2, am_I v2)], ([], (x, z))) (cvV0 z) (b_X7_dropLapsed_2 n k i0 i1 v2 x) := by
  intro k
  induction k with
  | zero =>
    intro i0 i1 v2 x
    exact to_0
  | succ k ih =>
    intro i0 i1 v2 x
    rw [b_X7_dropLapsed_2]
    refine to_if 4 (c := (xF x 3 1 i0) ≤ v2) (p1 := 29) (p2 := 10) (a' := ([(0, am_R 3 i0), (1, am_R 2 i1), (2, am_I v2)], ([], (x, z)))) rfl (fun c_1 => ?_) (fun c_1 => ?_)
    · exact to_rt 1 rfl
    · refine to_cl 3 (lv := [(0, am_R 3 i0), (1, am_R 2 i1), (2, am_I v2)]) (st := []) (M := (x, z)) (cb := (cvA0 4 z)) rfl (fun q hq => t_X7_one (by omega) hq) (fun q2 => ?_)
      refine to_cl 4 (lv := [(0, am_R 3 i0), (1, am_R 2 i1), (2, am_I v2)]) (st := []) (M := (q2.2, z)) (cb := (cvV0 z)) rfl (fun q hq => t_X6_dropLapsed (by omega) hq) (fun q3 => ?_)
      refine to_go 2 (pc' := 2) (a' := ([(2, am_I (v2 + (1 : Int32))), (0, am_R 3 i0), (1, am_R 2 i1)], ([], (q3, z)))) rfl ?_
      refine to_fg [1, 2, 0] (lv' := [(0, am_R 3 i0), (1, am_R 2 i1), (2, am_I (v2 + (1 : Int32)))]) rfl ?_
      exact ih i0 i1 (v2 + (1 : Int32)) q3
def f_X7_dropLapsed (n : Nat) (i0 : Nat) (i1 : Nat) (x : am_X) : Option (am_X) := b_X7_dropLapsed_2 n n i0 i1 (0 : Int32) x
theorem t_X7_dropLapsed {n : Nat} {d : Nat} {i0 : Nat} {i1 : Nat} {x z : am_X} {q : am_X} (hd : 3 ≤ d) (h : f_X7_dropLapsed n i0 i1 x = some q) : am_Ev am_PR d 62 [am_R 3 i0, am_R 2 i1] (x, z) (cvV0 z q) := by
  obtain ⟨d, rfl⟩ : ∃ e, d = e + 1 := ⟨d - 1, by omega⟩
  refine to_ev (P := (am_tab pX7_dropLapsed)) rfl (lv := [(0, am_R 3 i0), (1, am_R 2 i1)]) rfl ?_ q h
  unfold f_X7_dropLapsed
  refine to_go 2 (pc' := 2) (a' := ([(2, am_I (0 : Int32)), (0, am_R 3 i0), (1, am_R 2 i1)], ([], (x, z)))) rfl ?_
  refine to_fg [1, 2, 0] (lv' := [(0, am_R 3 i0), (1, am_R 2 i1), (2, am_I (0 : Int32))]) rfl ?_
  exact tb_X7_dropLapsed_2 (by omega)  n i0 i1 (0 : Int32) x
def b_X7_allOwed_4 (n : Nat) : Nat → Nat → Int32 → Int32 → am_X → Option (Int32 × am_X)
  | 0, _, _, _, _ => none
  | k + 1, i0, v1, v2, x => if (xF x 3 1 i0) ≤ v2 then (some (v1, x)) else ((f_X7_one n i0 v2 x).bind fun q2 => b_X7_allOwed_4 n k i0 (v1 + (xF q2.2 4 3 q2.1)) (v2 + (1 : Int32)) q2.2)
theorem tb_X7_allOwed_4 {n : Nat} {d : Nat} {z : am_X} (hd : 1 ≤ d) : ∀ (k : Nat) (i0 : Nat) (v1 : Int32) (v2 : Int32) (x : am_X), am_To d (am_tab pX7_allOwed) 4 ([(0, am_R 3 i0), (1, am_I v1), (2, am_I v2)], ([], (x, z))) (cvI0 z) (b_X7_allOwed_4 n k i0 v1 v2 x) := by
  intro k
  induction k with
  | zero =>
    intro i0 v1 v2 x
    exact to_0
  | succ k ih =>
    intro i0 v1 v2 x
    rw [b_X7_allOwed_4]
    refine to_if 4 (c := (xF x 3 1 i0) ≤ v2) (p1 := 29) (p2 := 12) (a' := ([(0, am_R 3 i0), (1, am_I v1), (2, am_I v2)], ([], (x, z)))) rfl (fun c_1 => ?_) (fun c_1 => ?_)
    · exact to_rt 2 (r := (v1, x)) rfl
    · refine to_cl 4 (lv := [(0, am_R 3 i0), (1, am_I v1), (2, am_I v2)]) (st := [am_I v1]) (M := (x, z)) (cb := (cvA0 4 z)) rfl (fun q hq => t_X7_one (by omega) hq) (fun q2 => ?_)
      refine to_go 4 (pc' := 26) (a' := ([(2, am_I (v2 + (1 : Int32))), (1, am_I (v1 + (xF q2.2 4 3 q2.1))), (0, am_R 3 i0)], ([], (q2.2, z)))) rfl ?_
      refine to_go 1 (pc' := 4) (a' := ([(2, am_I (v2 + (1 : Int32))), (1, am_I (v1 + (xF q2.2 4 3 q2.1))), (0, am_R 3 i0)], ([], (q2.2, z)))) rfl ?_
      refine to_fg [2, 1, 0] (lv' := [(0, am_R 3 i0), (1, am_I (v1 + (xF q2.2 4 3 q2.1))), (2, am_I (v2 + (1 : Int32)))]) rfl ?_
      exact ih i0 (v1 + (xF q2.2 4 3 q2.1)) (v2 + (1 : Int32)) q2.2
def f_X7_allOwed (n : Nat) (i0 : Nat) (x : am_X) : Option (Int32 × am_X) := b_X7_allOwed_4 n n i0 (0 : Int32) (0 : Int32) x
theorem t_X7_allOwed {n : Nat} {d : Nat} {i0 : Nat} {x z : am_X} {q : Int32 × am_X} (hd : 2 ≤ d) (h : f_X7_allOwed n i0 x = some q) : am_Ev am_PR d 66 [am_R 3 i0] (x, z) (cvI0 z q) := by
  obtain ⟨d, rfl⟩ : ∃ e, d = e + 1 := ⟨d - 1, by omega⟩
  refine to_ev (P := (am_tab pX7_allOwed)) rfl (lv := [(0, am_R 3 i0)]) rfl ?_ q h
  unfold f_X7_allOwed
  refine to_go 4 (pc' := 4) (a' := ([(2, am_I (0 : Int32)), (1, am_I (0 : Int32)), (0, am_R 3 i0)], ([], (x, z)))) rfl ?_
  refine to_fg [2, 1, 0] (lv' := [(0, am_R 3 i0), (1, am_I (0 : Int32)), (2, am_I (0 : Int32))]) rfl ?_
  exact tb_X7_allOwed_4 (by omega)  n i0 (0 : Int32) (0 : Int32) x
def b_X7_forgive_7 (n : Nat) : Nat → Nat → Int32 → Int32 → am_X → Option (Int32 × am_X)
  | 0, _, _, _, _ => none
  | k + 1, i0, v1, v2, x => if (xF x 3 1 i0) ≤ v2 then (some (v1, x)) else ((f_X7_one n i0 v2 x).bind fun q2 => b_X7_forgive_7 n k i0 v1 (v2 + (1 : Int32)) (sF q2.2 4 3 q2.1 (0 : Int32)))
theorem tb_X7_forgive_7 {n : Nat} {d : Nat} {z : am_X} (hd : 2 ≤ d) : ∀ (k : Nat) (i0 : Nat) (v1 : Int32) (v2 : Int32) (x : am_X), am_To d (am_tab pX7_forgive) 7 ([(0, am_R 3 i0), (1, am_I v1), (2, am_I v2)], ([], (x, z))) (cvI0 z) (b_X7_forgive_7 n k i0 v1 v2 x) := by
  intro k
  induction k with
  | zero =>
    intro i0 v1 v2 x
    exact to_0
  | succ k ih =>
    intro i0 v1 v2 x
    rw [b_X7_forgive_7]
    refine to_if 4 (c := (xF x 3 1 i0) ≤ v2) (p1 := 30) (p2 := 15) (a' := ([(0, am_R 3 i0), (1, am_I v1), (2, am_I v2)], ([], (x, z)))) rfl (fun c_1 => ?_) (fun c_1 => ?_)
    · exact to_rt 2 (r := (v1, x)) rfl
    · refine to_cl 3 (lv := [(0, am_R 3 i0), (1, am_I v1), (2, am_I v2)]) (st := []) (M := (x, z)) (cb := (cvA0 4 z)) rfl (fun q hq => t_X7_one (by omega) hq) (fun q2 => ?_)
      refine to_go 4 (pc' := 7) (a' := ([(2, am_I (v2 + (1 : Int32))), (0, am_R 3 i0), (1, am_I v1)], ([], ((sF q2.2 4 3 q2.1 (0 : Int32)), z)))) rfl ?_
      refine to_fg [1, 2, 0] (lv' := [(0, am_R 3 i0), (1, am_I v1), (2, am_I (v2 + (1 : Int32)))]) rfl ?_
      exact ih i0 v1 (v2 + (1 : Int32)) (sF q2.2 4 3 q2.1 (0 : Int32))
def f_X7_forgive (n : Nat) (i0 : Nat) (x : am_X) : Option (Int32 × am_X) := (f_X7_allOwed n i0 x).bind fun q1 => b_X7_forgive_7 n n i0 q1.1 (0 : Int32) q1.2
theorem t_X7_forgive {n : Nat} {d : Nat} {i0 : Nat} {x z : am_X} {q : Int32 × am_X} (hd : 3 ≤ d) (h : f_X7_forgive n i0 x = some q) : am_Ev am_PR d 63 [am_R 3 i0] (x, z) (cvI0 z q) := by
  obtain ⟨d, rfl⟩ : ∃ e, d = e + 1 := ⟨d - 1, by omega⟩
  refine to_ev (P := (am_tab pX7_forgive)) rfl (lv := [(0, am_R 3 i0)]) rfl ?_ q h
  unfold f_X7_forgive
  refine to_cl 2 (lv := [(0, am_R 3 i0)]) (st := []) (M := (x, z)) (cb := (cvI0 z)) rfl (fun q hq => t_X7_allOwed (by omega) hq) (fun q1 => ?_)
  refine to_go 3 (pc' := 7) (a' := ([(2, am_I (0 : Int32)), (1, am_I q1.1), (0, am_R 3 i0)], ([], (q1.2, z)))) rfl ?_
  refine to_fg [2, 1, 0] (lv' := [(0, am_R 3 i0), (1, am_I q1.1), (2, am_I (0 : Int32))]) rfl ?_
  exact tb_X7_forgive_7 (by omega)  n i0 q1.1 (0 : Int32) q1.2
def b_X7_someoneCovered_70 (n : Nat) (h3 : Nat → Int32 → Int32 → Nat → Int32 → am_X → Option (Int32 × am_X)) (i0 : Nat) (v1 : Int32) (v2 : Int32) (i3 : Nat) (v4 : Int32) (x : am_X) : Option (Int32 × am_X) := h3 i0 v1 v2 i3 (v4 + (1 : Int32)) x
theorem tb_X7_someoneCovered_70 {n : Nat} {h3 : Nat → Int32 → Int32 → Nat → Int32 → am_X → Option (Int32 × am_X)} {d : Nat} {z : am_X} (hd : 3 ≤ d) (hh3 : ∀ (i0 : Nat) (v1 : Int32) (v2 : Int32) (i3 : Nat) (v4 : Int32) (x : am_X), am_To d (am_tab pX7_someoneCovered) 3 ([(0, am_R 3 i0), (1, am_I v1), (2, am_I v2), (3, am_R 2 i3), (4, am_I v4)], ([], (x, z))) (cvI0 z) (h3 i0 v1 v2 i3 v4 x)) (i0 : Nat) (v1 : Int32) (v2 : Int32) (i3 : Nat) (v4 : Int32) (x : am_X) : am_To d (am_tab pX7_someoneCovered) 70 ([(0, am_R 3 i0), (1, am_I v1), (2, am_I v2), (3, am_R 2 i3), (4, am_I v4)], ([], (x, z))) (cvI0 z) (b_X7_someoneCovered_70 n h3 i0 v1 v2 i3 v4 x) := by
  unfold b_X7_someoneCovered_70
  refine to_go 2 (pc' := 3) (a' := ([(4, am_I (v4 + (1 : Int32))), (0, am_R 3 i0), (1, am_I v1), (2, am_I v2), (3, am_R 2 i3)], ([], (x, z)))) rfl ?_
  refine to_fg [1, 2, 3, 4, 0] (lv' := [(0, am_R 3 i0), (1, am_I v1), (2, am_I v2), (3, am_R 2 i3), (4, am_I (v4 + (1 : Int32)))]) rfl ?_
  exact hh3 i0 v1 v2 i3 (v4 + (1 : Int32)) x
def b_X7_someoneCovered_42 (n : Nat) (h3 : Nat → Int32 → Int32 → Nat → Int32 → am_X → Option (Int32 × am_X)) (i0 : Nat) (v1 : Int32) (v2 : Int32) (i3 : Nat) (v4 : Int32) (i5 : Nat) (s0 : Nat) (s1 : Int32) (x : am_X) : Option (Int32 × am_X) := (f_X3_firstThatCounts n s0 s1 x).bind fun q1 => if ¬ (xF q1.2 4 5 i5) = 0 then (b_X7_someoneCovered_70 n h3 i0 v1 v2 i3 v4 q1.2) else ((f_X6_isCovered n i5 v1 v2 q1.1 i3 q1.2).bind fun q3 => if q3.1 = 0 then (b_X7_someoneCovered_70 n h3 i0 v1 v2 i3 v4 q3.2) else (some ((1 : Int32), q3.2)))
theorem tb_X7_someoneCovered_42 {n : Nat} {h3 : Nat → Int32 → Int32 → Nat → Int32 → am_X → Option (Int32 × am_X)} {d : Nat} {z : am_X} (hd : 3 ≤ d) (hh3 : ∀ (i0 : Nat) (v1 : Int32) (v2 : Int32) (i3 : Nat) (v4 : Int32) (x : am_X), am_To d (am_tab pX7_someoneCovered) 3 ([(0, am_R 3 i0), (1, am_I v1), (2, am_I v2), (3, am_R 2 i3), (4, am_I v4)], ([], (x, z))) (cvI0 z) (h3 i0 v1 v2 i3 v4 x)) (i0 : Nat) (v1 : Int32) (v2 : Int32) (i3 : Nat) (v4 : Int32) (i5 : Nat) (s0 : Nat) (s1 : Int32) (x : am_X) : am_To d (am_tab pX7_someoneCovered) 42 ([(0, am_R 3 i0), (1, am_I v1), (2, am_I v2), (3, am_R 2 i3), (4, am_I v4), (5, am_R 4 i5)], ([am_I s1, am_R 2 s0], (x, z))) (cvI0 z) (b_X7_someoneCovered_42 n h3 i0 v1 v2 i3 v4 i5 s0 s1 x) := by
  unfold b_X7_someoneCovered_42
  refine to_cl 1 (lv := [(0, am_R 3 i0), (1, am_I v1), (2, am_I v2), (3, am_R 2 i3), (4, am_I v4), (5, am_R 4 i5)]) (st := []) (M := (x, z)) (cb := (cvI0 z)) rfl (fun q hq => t_X3_firstThatCounts (by omega) hq) (fun q1 => ?_)
  refine to_if 4 (c := ¬ (xF q1.2 4 5 i5) = 0) (p1 := 70) (p2 := 55) (a' := ([(6, am_I q1.1), (0, am_R 3 i0), (1, am_I v1), (2, am_I v2), (3, am_R 2 i3), (4, am_I v4), (5, am_R 4 i5)], ([], (q1.2, z)))) rfl (fun c_2 => ?_) (fun c_2 => ?_)
  · refine to_fg [1, 2, 3, 4, 5] (lv' := [(0, am_R 3 i0), (1, am_I v1), (2, am_I v2), (3, am_R 2 i3), (4, am_I v4)]) rfl ?_
    exact tb_X7_someoneCovered_70 (by omega) hh3  i0 v1 v2 i3 v4 q1.2
  · refine to_go 4 (pc' := 61) (a' := ([(6, am_I q1.1), (0, am_R 3 i0), (1, am_I v1), (2, am_I v2), (3, am_R 2 i3), (4, am_I v4), (5, am_R 4 i5)], ([am_I q1.1, am_I v2, am_I v1, am_R 4 i5], (q1.2, z)))) rfl ?_
    refine to_cl 2 (lv := [(6, am_I q1.1), (0, am_R 3 i0), (1, am_I v1), (2, am_I v2), (3, am_R 2 i3), (4, am_I v4), (5, am_R 4 i5)]) (st := []) (M := (q1.2, z)) (cb := (cvI0 z)) rfl (fun q hq => t_X6_isCovered (by omega) hq) (fun q3 => ?_)
    refine to_if 1 (c := q3.1 = 0) (p1 := 70) (p2 := 68) (a' := ([(6, am_I q1.1), (0, am_R 3 i0), (1, am_I v1), (2, am_I v2), (3, am_R 2 i3), (4, am_I v4), (5, am_R 4 i5)], ([], (q3.2, z)))) rfl (fun c_4 => ?_) (fun c_4 => ?_)
    · refine to_fg [1, 2, 3, 4, 5] (lv' := [(0, am_R 3 i0), (1, am_I v1), (2, am_I v2), (3, am_R 2 i3), (4, am_I v4)]) rfl ?_
      exact tb_X7_someoneCovered_70 (by omega) hh3  i0 v1 v2 i3 v4 q3.2
    · exact to_rk 1 69 (c := am_bz (1 : Int32) = true) (r := ((1 : Int32), q3.2)) rfl rfl (by decide)
def b_X7_someoneCovered_3 (n : Nat) : Nat → Nat → Int32 → Int32 → Nat → Int32 → am_X → Option (Int32 × am_X)
  | 0, _, _, _, _, _, _ => none
  | k + 1, i0, v1, v2, i3, v4, x => if (xF x 3 1 i0) ≤ v4 then (some ((0 : Int32), x)) else ((f_X7_one n i0 v4 x).bind fun q2 => if (xF q2.2 4 4 q2.1) = 0 then (b_X7_someoneCovered_42 n (b_X7_someoneCovered_3 n k) i0 v1 v2 i3 v4 q2.1 i3 (xF q2.2 3 2 i0) q2.2) else (b_X7_someoneCovered_42 n (b_X7_someoneCovered_3 n k) i0 v1 v2 i3 v4 q2.1 i3 ((xF q2.2 3 2 i0) + (1 : Int32)) q2.2))
theorem tb_X7_someoneCovered_3 {n : Nat} {d : Nat} {z : am_X} (hd : 3 ≤ d) : ∀ (k : Nat) (i0 : Nat) (v1 : Int32) (v2 : Int32) (i3 : Nat) (v4 : Int32) (x : am_X), am_To d (am_tab pX7_someoneCovered) 3 ([(0, am_R 3 i0), (1, am_I v1), (2, am_I v2), (3, am_R 2 i3), (4, am_I v4)], ([], (x, z))) (cvI0 z) (b_X7_someoneCovered_3 n k i0 v1 v2 i3 v4 x) := by
  intro k
  induction k with
  | zero =>
    intro i0 v1 v2 i3 v4 x
    exact to_0
  | succ k ih =>
    intro i0 v1 v2 i3 v4 x
    rw [b_X7_someoneCovered_3]
    refine to_if 4 (c := (xF x 3 1 i0) ≤ v4) (p1 := 76) (p2 := 12) (a' := ([(0, am_R 3 i0), (1, am_I v1), (2, am_I v2), (3, am_R 2 i3), (4, am_I v4)], ([], (x, z)))) rfl (fun c_1 => ?_) (fun c_1 => ?_)
    · exact to_rk 1 77 (c := am_bz (0 : Int32) = true) (r := ((0 : Int32), x)) rfl rfl (by decide)
    · refine to_cl 3 (lv := [(0, am_R 3 i0), (1, am_I v1), (2, am_I v2), (3, am_R 2 i3), (4, am_I v4)]) (st := []) (M := (x, z)) (cb := (cvA0 4 z)) rfl (fun q hq => t_X7_one (by omega) hq) (fun q2 => ?_)
      refine to_go 4 (pc' := 26) (a' := ([(5, am_R 4 q2.1), (0, am_R 3 i0), (1, am_I v1), (2, am_I v2), (3, am_R 2 i3), (4, am_I v4)], ([am_I (xF q2.2 4 4 q2.1), am_R 2 i3], (q2.2, z)))) rfl ?_
      refine to_if 1 (c := (xF q2.2 4 4 q2.1) = 0) (p1 := 38) (p2 := 29) (a' := ([(5, am_R 4 q2.1), (0, am_R 3 i0), (1, am_I v1), (2, am_I v2), (3, am_R 2 i3), (4, am_I v4)], ([am_R 2 i3], (q2.2, z)))) rfl (fun c_3 => ?_) (fun c_3 => ?_)
      · refine to_go 2 (pc' := 42) (a' := ([(5, am_R 4 q2.1), (0, am_R 3 i0), (1, am_I v1), (2, am_I v2), (3, am_R 2 i3), (4, am_I v4)], ([am_I (xF q2.2 3 2 i0), am_R 2 i3], (q2.2, z)))) rfl ?_
        refine to_fg [1, 2, 3, 4, 5, 0] (lv' := [(0, am_R 3 i0), (1, am_I v1), (2, am_I v2), (3, am_R 2 i3), (4, am_I v4), (5, am_R 4 q2.1)]) rfl ?_
        exact tb_X7_someoneCovered_42 (by omega) ih  i0 v1 v2 i3 v4 q2.1 i3 (xF q2.2 3 2 i0) q2.2
      · refine to_go 4 (pc' := 35) (a' := ([(5, am_R 4 q2.1), (0, am_R 3 i0), (1, am_I v1), (2, am_I v2), (3, am_R 2 i3), (4, am_I v4)], ([am_I ((xF q2.2 3 2 i0) + (1 : Int32)), am_R 2 i3], (q2.2, z)))) rfl ?_
        refine to_go 1 (pc' := 42) (a' := ([(5, am_R 4 q2.1), (0, am_R 3 i0), (1, am_I v1), (2, am_I v2), (3, am_R 2 i3), (4, am_I v4)], ([am_I ((xF q2.2 3 2 i0) + (1 : Int32)), am_R 2 i3], (q2.2, z)))) rfl ?_
        refine to_fg [1, 2, 3, 4, 5, 0] (lv' := [(0, am_R 3 i0), (1, am_I v1), (2, am_I v2), (3, am_R 2 i3), (4, am_I v4), (5, am_R 4 q2.1)]) rfl ?_
        exact tb_X7_someoneCovered_42 (by omega) ih  i0 v1 v2 i3 v4 q2.1 i3 ((xF q2.2 3 2 i0) + (1 : Int32)) q2.2
def f_X7_someoneCovered (n : Nat) (i0 : Nat) (v1 : Int32) (v2 : Int32) (i3 : Nat) (x : am_X) : Option (Int32 × am_X) := b_X7_someoneCovered_3 n n i0 v1 v2 i3 (0 : Int32) x
theorem t_X7_someoneCovered {n : Nat} {d : Nat} {i0 : Nat} {v1 : Int32} {v2 : Int32} {i3 : Nat} {x z : am_X} {q : Int32 × am_X} (hd : 4 ≤ d) (h : f_X7_someoneCovered n i0 v1 v2 i3 x = some q) : am_Ev am_PR d 64 [am_R 3 i0, am_I v1, am_I v2, am_R 2 i3] (x, z) (cvI0 z q) := by
  obtain ⟨d, rfl⟩ : ∃ e, d = e + 1 := ⟨d - 1, by omega⟩
  refine to_ev (P := (am_tab pX7_someoneCovered)) rfl (lv := [(0, am_R 3 i0), (1, am_I v1), (2, am_I v2), (3, am_R 2 i3)]) rfl ?_ q h
  unfold f_X7_someoneCovered
  refine to_go 2 (pc' := 3) (a' := ([(4, am_I (0 : Int32)), (0, am_R 3 i0), (1, am_I v1), (2, am_I v2), (3, am_R 2 i3)], ([], (x, z)))) rfl ?_
  refine to_fg [1, 2, 3, 4, 0] (lv' := [(0, am_R 3 i0), (1, am_I v1), (2, am_I v2), (3, am_R 2 i3), (4, am_I (0 : Int32))]) rfl ?_
  exact tb_X7_someoneCovered_3 (by omega)  n i0 v1 v2 i3 (0 : Int32) x
def b_X7_allGone_29 (n : Nat) (h4 : Nat → Int32 → Int32 → am_X → Option (Int32 × am_X)) (i0 : Nat) (v2 : Int32) (s0 : Int32) (s1 : Int32) (x : am_X) : Option (Int32 × am_X) := h4 i0 (s0 + s1) (v2 + (1 : Int32)) x
theorem tb_X7_allGone_29 {n : Nat} {h4 : Nat → Int32 → Int32 → am_X → Option (Int32 × am_X)} {d : Nat} {z : am_X} (hd : 1 ≤ d) (hh4 : ∀ (i0 : Nat) (v1 : Int32) (v2 : Int32) (x : am_X), am_To d (am_tab pX7_allGone) 4 ([(0, am_R 3 i0), (1, am_I v1), (2, am_I v2)], ([], (x, z))) (cvI0 z) (h4 i0 v1 v2 x)) (i0 : Nat) (v2 : Int32) (s0 : Int32) (s1 : Int32) (x : am_X) : am_To d (am_tab pX7_allGone) 29 ([(0, am_R 3 i0), (2, am_I v2)], ([am_I s1, am_I s0], (x, z))) (cvI0 z) (b_X7_allGone_29 n h4 i0 v2 s0 s1 x) := by
  unfold b_X7_allGone_29
  refine to_go 4 (pc' := 4) (a' := ([(2, am_I (v2 + (1 : Int32))), (1, am_I (s0 + s1)), (0, am_R 3 i0)], ([], (x, z)))) rfl ?_
  refine to_fg [2, 1, 0] (lv' := [(0, am_R 3 i0), (1, am_I (s0 + s1)), (2, am_I (v2 + (1 : Int32)))]) rfl ?_
  exact hh4 i0 (s0 + s1) (v2 + (1 : Int32)) x
def b_X7_allGone_4 (n : Nat) : Nat → Nat → Int32 → Int32 → am_X → Option (Int32 × am_X)
  | 0, _, _, _, _ => none
  | k + 1, i0, v1, v2, x => if (xF x 3 1 i0) ≤ v2 then (some (v1, x)) else ((f_X7_one n i0 v2 x).bind fun q2 => if (xF q2.2 4 5 q2.1) = 0 then (b_X7_allGone_29 n (b_X7_allGone_4 n k) i0 v2 v1 (0 : Int32) q2.2) else (b_X7_allGone_29 n (b_X7_allGone_4 n k) i0 v2 v1 (1 : Int32) q2.2))
theorem tb_X7_allGone_4 {n : Nat} {d : Nat} {z : am_X} (hd : 1 ≤ d) : ∀ (k : Nat) (i0 : Nat) (v1 : Int32) (v2 : Int32) (x : am_X), am_To d (am_tab pX7_allGone) 4 ([(0, am_R 3 i0), (1, am_I v1), (2, am_I v2)], ([], (x, z))) (cvI0 z) (b_X7_allGone_4 n k i0 v1 v2 x) := by
  intro k
  induction k with
  | zero =>
    intro i0 v1 v2 x
    exact to_0
  | succ k ih =>
    intro i0 v1 v2 x
    rw [b_X7_allGone_4]
    refine to_if 4 (c := (xF x 3 1 i0) ≤ v2) (p1 := 37) (p2 := 12) (a' := ([(0, am_R 3 i0), (1, am_I v1), (2, am_I v2)], ([], (x, z)))) rfl (fun c_1 => ?_) (fun c_1 => ?_)
    · exact to_rt 2 (r := (v1, x)) rfl
    · refine to_cl 4 (lv := [(0, am_R 3 i0), (1, am_I v1), (2, am_I v2)]) (st := [am_I v1]) (M := (x, z)) (cb := (cvA0 4 z)) rfl (fun q hq => t_X7_one (by omega) hq) (fun q2 => ?_)
      refine to_if 2 (c := (xF q2.2 4 5 q2.1) = 0) (p1 := 28) (p2 := 24) (a' := ([(0, am_R 3 i0), (1, am_I v1), (2, am_I v2)], ([am_I v1], (q2.2, z)))) rfl (fun c_3 => ?_) (fun c_3 => ?_)
      · refine to_go 1 (pc' := 29) (a' := ([(0, am_R 3 i0), (1, am_I v1), (2, am_I v2)], ([am_I (0 : Int32), am_I v1], (q2.2, z)))) rfl ?_
        refine to_fg [0, 2] (lv' := [(0, am_R 3 i0), (2, am_I v2)]) rfl ?_
        exact tb_X7_allGone_29 (by omega) ih  i0 v2 v1 (0 : Int32) q2.2
      · refine to_go 2 (pc' := 29) (a' := ([(0, am_R 3 i0), (1, am_I v1), (2, am_I v2)], ([am_I (1 : Int32), am_I v1], (q2.2, z)))) rfl ?_
        refine to_fg [0, 2] (lv' := [(0, am_R 3 i0), (2, am_I v2)]) rfl ?_
        exact tb_X7_allGone_29 (by omega) ih  i0 v2 v1 (1 : Int32) q2.2
def f_X7_allGone (n : Nat) (i0 : Nat) (x : am_X) : Option (Int32 × am_X) := b_X7_allGone_4 n n i0 (0 : Int32) (0 : Int32) x
theorem t_X7_allGone {n : Nat} {d : Nat} {i0 : Nat} {x z : am_X} {q : Int32 × am_X} (hd : 2 ≤ d) (h : f_X7_allGone n i0 x = some q) : am_Ev am_PR d 65 [am_R 3 i0] (x, z) (cvI0 z q) := by
  obtain ⟨d, rfl⟩ : ∃ e, d = e + 1 := ⟨d - 1, by omega⟩
  refine to_ev (P := (am_tab pX7_allGone)) rfl (lv := [(0, am_R 3 i0)]) rfl ?_ q h
  unfold f_X7_allGone
  refine to_go 4 (pc' := 4) (a' := ([(2, am_I (0 : Int32)), (1, am_I (0 : Int32)), (0, am_R 3 i0)], ([], (x, z)))) rfl ?_
  refine to_fg [2, 1, 0] (lv' := [(0, am_R 3 i0), (1, am_I (0 : Int32)), (2, am_I (0 : Int32))]) rfl ?_
  exact tb_X7_allGone_4 (by omega)  n i0 (0 : Int32) (0 : Int32) x
def b_X7_allGot_4 (n : Nat) : Nat → Nat → Int32 → Int32 → am_X → Option (Int32 × am_X)
  | 0, _, _, _, _ => none
  | k + 1, i0, v1, v2, x => if (xF x 3 1 i0) ≤ v2 then (some (v1, x)) else ((f_X7_one n i0 v2 x).bind fun q2 => b_X7_allGot_4 n k i0 (v1 + (xF q2.2 4 2 q2.1)) (v2 + (1 : Int32)) q2.2)
theorem tb_X7_allGot_4 {n : Nat} {d : Nat} {z : am_X} (hd : 1 ≤ d) : ∀ (k : Nat) (i0 : Nat) (v1 : Int32) (v2 : Int32) (x : am_X), am_To d (am_tab pX7_allGot) 4 ([(0, am_R 3 i0), (1, am_I v1), (2, am_I v2)], ([], (x, z))) (cvI0 z) (b_X7_allGot_4 n k i0 v1 v2 x) := by
  intro k
  induction k with
  | zero =>
    intro i0 v1 v2 x
    exact to_0
  | succ k ih =>
    intro i0 v1 v2 x
    rw [b_X7_allGot_4]
    refine to_if 4 (c := (xF x 3 1 i0) ≤ v2) (p1 := 29) (p2 := 12) (a' := ([(0, am_R 3 i0), (1, am_I v1), (2, am_I v2)], ([], (x, z)))) rfl (fun c_1 => ?_) (fun c_1 => ?_)
    · exact to_rt 2 (r := (v1, x)) rfl
    · refine to_cl 4 (lv := [(0, am_R 3 i0), (1, am_I v1), (2, am_I v2)]) (st := [am_I v1]) (M := (x, z)) (cb := (cvA0 4 z)) rfl (fun q hq => t_X7_one (by omega) hq) (fun q2 => ?_)
      refine to_go 4 (pc' := 26) (a' := ([(2, am_I (v2 + (1 : Int32))), (1, am_I (v1 + (xF q2.2 4 2 q2.1))), (0, am_R 3 i0)], ([], (q2.2, z)))) rfl ?_
      refine to_go 1 (pc' := 4) (a' := ([(2, am_I (v2 + (1 : Int32))), (1, am_I (v1 + (xF q2.2 4 2 q2.1))), (0, am_R 3 i0)], ([], (q2.2, z)))) rfl ?_
      refine to_fg [2, 1, 0] (lv' := [(0, am_R 3 i0), (1, am_I (v1 + (xF q2.2 4 2 q2.1))), (2, am_I (v2 + (1 : Int32)))]) rfl ?_
      exact ih i0 (v1 + (xF q2.2 4 2 q2.1)) (v2 + (1 : Int32)) q2.2
def f_X7_allGot (n : Nat) (i0 : Nat) (x : am_X) : Option (Int32 × am_X) := b_X7_allGot_4 n n i0 (0 : Int32) (0 : Int32) x
theorem t_X7_allGot {n : Nat} {d : Nat} {i0 : Nat} {x z : am_X} {q : Int32 × am_X} (hd : 2 ≤ d) (h : f_X7_allGot n i0 x = some q) : am_Ev am_PR d 67 [am_R 3 i0] (x, z) (cvI0 z q) := by
  obtain ⟨d, rfl⟩ : ∃ e, d = e + 1 := ⟨d - 1, by omega⟩
  refine to_ev (P := (am_tab pX7_allGot)) rfl (lv := [(0, am_R 3 i0)]) rfl ?_ q h
  unfold f_X7_allGot
  refine to_go 4 (pc' := 4) (a' := ([(2, am_I (0 : Int32)), (1, am_I (0 : Int32)), (0, am_R 3 i0)], ([], (x, z)))) rfl ?_
  refine to_fg [2, 1, 0] (lv' := [(0, am_R 3 i0), (1, am_I (0 : Int32)), (2, am_I (0 : Int32))]) rfl ?_
  exact tb_X7_allGot_4 (by omega)  n i0 (0 : Int32) (0 : Int32) x
def b_X7_allCredits_4 (n : Nat) : Nat → Nat → Int32 → Int32 → am_X → Option (Int32 × am_X)
  | 0, _, _, _, _ => none
  | k + 1, i0, v1, v2, x => if (xF x 3 1 i0) ≤ v2 then (some (v1, x)) else ((f_X7_one n i0 v2 x).bind fun q2 => b_X7_allCredits_4 n k i0 (v1 + (xF q2.2 5 1 q2.1)) (v2 + (1 : Int32)) q2.2)
theorem tb_X7_allCredits_4 {n : Nat} {d : Nat} {z : am_X} (hd : 1 ≤ d) : ∀ (k : Nat) (i0 : Nat) (v1 : Int32) (v2 : Int32) (x : am_X), am_To d (am_tab pX7_allCredits) 4 ([(0, am_R 3 i0), (1, am_I v1), (2, am_I v2)], ([], (x, z))) (cvI0 z) (b_X7_allCredits_4 n k i0 v1 v2 x) := by
  intro k
  induction k with
  | zero =>
    intro i0 v1 v2 x
    exact to_0
  | succ k ih =>
    intro i0 v1 v2 x
    rw [b_X7_allCredits_4]
    refine to_if 4 (c := (xF x 3 1 i0) ≤ v2) (p1 := 32) (p2 := 12) (a' := ([(0, am_R 3 i0), (1, am_I v1), (2, am_I v2)], ([], (x, z)))) rfl (fun c_1 => ?_) (fun c_1 => ?_)
    · exact to_rt 2 (r := (v1, x)) rfl
    · refine to_cl 4 (lv := [(0, am_R 3 i0), (1, am_I v1), (2, am_I v2)]) (st := [am_I v1]) (M := (x, z)) (cb := (cvA0 4 z)) rfl (fun q hq => t_X7_one (by omega) hq) (fun q2 => ?_)
      refine to_go 4 (pc' := 26) (a' := ([(1, am_I (v1 + (xF q2.2 5 1 q2.1))), (0, am_R 3 i0), (2, am_I v2)], ([], (q2.2, z)))) rfl ?_
      refine to_go 2 (pc' := 4) (a' := ([(2, am_I (v2 + (1 : Int32))), (1, am_I (v1 + (xF q2.2 5 1 q2.1))), (0, am_R 3 i0)], ([], (q2.2, z)))) rfl ?_
      refine to_fg [2, 1, 0] (lv' := [(0, am_R 3 i0), (1, am_I (v1 + (xF q2.2 5 1 q2.1))), (2, am_I (v2 + (1 : Int32)))]) rfl ?_
      exact ih i0 (v1 + (xF q2.2 5 1 q2.1)) (v2 + (1 : Int32)) q2.2
def f_X7_allCredits (n : Nat) (i0 : Nat) (x : am_X) : Option (Int32 × am_X) := b_X7_allCredits_4 n n i0 (0 : Int32) (0 : Int32) x
theorem t_X7_allCredits {n : Nat} {d : Nat} {i0 : Nat} {x z : am_X} {q : Int32 × am_X} (hd : 2 ≤ d) (h : f_X7_allCredits n i0 x = some q) : am_Ev am_PR d 68 [am_R 3 i0] (x, z) (cvI0 z q) := by
  obtain ⟨d, rfl⟩ : ∃ e, d = e + 1 := ⟨d - 1, by omega⟩
  refine to_ev (P := (am_tab pX7_allCredits)) rfl (lv := [(0, am_R 3 i0)]) rfl ?_ q h
  unfold f_X7_allCredits
  refine to_go 4 (pc' := 4) (a' := ([(2, am_I (0 : Int32)), (1, am_I (0 : Int32)), (0, am_R 3 i0)], ([], (x, z)))) rfl ?_
  refine to_fg [2, 1, 0] (lv' := [(0, am_R 3 i0), (1, am_I (0 : Int32)), (2, am_I (0 : Int32))]) rfl ?_
  exact tb_X7_allCredits_4 (by omega)  n i0 (0 : Int32) (0 : Int32) x
def f_X7_drawn (n : Nat) (i0 : Nat) (x : am_X) : Option (Int32 × am_X) := some ((((xF (sF x 3 4 i0 ((((1103515245 : Int32) * (xF x 3 4 i0)) + (12345 : Int32)) &&& (2147483647 : Int32))) 3 4 i0) / (65536 : Int32)) - ((xF (sF x 3 4 i0 ((((1103515245 : Int32) * (xF x 3 4 i0)) + (12345 : Int32)) &&& (2147483647 : Int32))) 3 4 i0) / (65536 : Int32)) / (12 : Int32) * (12 : Int32)), (sF x 3 4 i0 ((((1103515245 : Int32) * (xF x 3 4 i0)) + (12345 : Int32)) &&& (2147483647 : Int32))))
theorem t_X7_drawn {n : Nat} {d : Nat} {i0 : Nat} {x z : am_X} {q : Int32 × am_X} (hd : 1 ≤ d) (h : f_X7_drawn n i0 x = some q) : am_Ev am_PR d 71 [am_R 3 i0] (x, z) (cvI0 z q) := by
  obtain ⟨d, rfl⟩ : ∃ e, d = e + 1 := ⟨d - 1, by omega⟩
  refine to_ev (P := (am_tab pX7_drawn)) rfl (lv := [(0, am_R 3 i0)]) rfl ?_ q h
  unfold f_X7_drawn
  refine to_go 4 (pc' := 7) (a' := ([(0, am_R 3 i0)], ([am_I (xF x 3 4 i0), am_I (1103515245 : Int32), am_R 3 i0], (x, z)))) rfl ?_
  refine to_go 4 (pc' := 14) (a' := ([(0, am_R 3 i0)], ([am_I (2147483647 : Int32), am_I (((1103515245 : Int32) * (xF x 3 4 i0)) + (12345 : Int32)), am_R 3 i0], (x, z)))) rfl ?_
  refine to_go 4 (pc' := 22) (a' := ([(0, am_R 3 i0)], ([am_I (xF (sF x 3 4 i0 ((((1103515245 : Int32) * (xF x 3 4 i0)) + (12345 : Int32)) &&& (2147483647 : Int32))) 3 4 i0)], ((sF x 3 4 i0 ((((1103515245 : Int32) * (xF x 3 4 i0)) + (12345 : Int32)) &&& (2147483647 : Int32))), z)))) rfl ?_
  refine to_gk 1 24 (c := ¬ (65536 : Int32) = 0) (pc' := 25) (a' := ([(0, am_R 3 i0)], ([am_I ((xF (sF x 3 4 i0 ((((1103515245 : Int32) * (xF x 3 4 i0)) + (12345 : Int32)) &&& (2147483647 : Int32))) 3 4 i0) / (65536 : Int32))], ((sF x 3 4 i0 ((((1103515245 : Int32) * (xF x 3 4 i0)) + (12345 : Int32)) &&& (2147483647 : Int32))), z)))) rfl rfl (by decide) ?_
  refine to_gk 1 27 (c := ¬ (12 : Int32) = 0) (pc' := 28) (a' := ([(0, am_R 3 i0)], ([am_I (((xF (sF x 3 4 i0 ((((1103515245 : Int32) * (xF x 3 4 i0)) + (12345 : Int32)) &&& (2147483647 : Int32))) 3 4 i0) / (65536 : Int32)) - ((xF (sF x 3 4 i0 ((((1103515245 : Int32) * (xF x 3 4 i0)) + (12345 : Int32)) &&& (2147483647 : Int32))) 3 4 i0) / (65536 : Int32)) / (12 : Int32) * (12 : Int32))], ((sF x 3 4 i0 ((((1103515245 : Int32) * (xF x 3 4 i0)) + (12345 : Int32)) &&& (2147483647 : Int32))), z)))) rfl rfl (by decide) ?_
  exact to_rt 1 (r := ((((xF (sF x 3 4 i0 ((((1103515245 : Int32) * (xF x 3 4 i0)) + (12345 : Int32)) &&& (2147483647 : Int32))) 3 4 i0) / (65536 : Int32)) - ((xF (sF x 3 4 i0 ((((1103515245 : Int32) * (xF x 3 4 i0)) + (12345 : Int32)) &&& (2147483647 : Int32))) 3 4 i0) / (65536 : Int32)) / (12 : Int32) * (12 : Int32)), (sF x 3 4 i0 ((((1103515245 : Int32) * (xF x 3 4 i0)) + (12345 : Int32)) &&& (2147483647 : Int32))))) rfl
def f_X7_actByDraw (n : Nat) (i0 : Nat) (i1 : Nat) (i2 : Nat) (x : am_X) : Option (am_X) := (f_X7_drawn n i0 x).bind fun q1 => (f_X8_actAt n q1.1 q1.2).bind fun q2 => if q2.1 = (9 : Int32) then (some q2.2) else ((f_X6_isFreeTo n i1 q2.1 i2 q2.2).bind fun q4 => if q4.1 = 0 then (some q4.2) else ((f_X6_does n i1 q2.1 i2 (xF q4.2 3 2 i0) q4.2).bind fun q6 => (f_X8_isServing n q2.1 q6).bind fun q7 => if q7.1 = 0 then (some (sF q7.2 3 3 i0 ((xF q6 3 3 i0) + (1 : Int32)))) else (some (sF q7.2 3 3 i0 ((xF q6 3 3 i0) + (0 : Int32))))))
theorem t_X7_actByDraw {n : Nat} {d : Nat} {i0 : Nat} {i1 : Nat} {i2 : Nat} {x z : am_X} {q : am_X} (hd : 5 ≤ d) (h : f_X7_actByDraw n i0 i1 i2 x = some q) : am_Ev am_PR d 70 [am_R 3 i0, am_R 4 i1, am_R 2 i2] (x, z) (cvV0 z q) := by
  obtain ⟨d, rfl⟩ : ∃ e, d = e + 1 := ⟨d - 1, by omega⟩
  refine to_ev (P := (am_tab pX7_actByDraw)) rfl (lv := [(0, am_R 3 i0), (1, am_R 4 i1), (2, am_R 2 i2)]) rfl ?_ q h
  unfold f_X7_actByDraw
  refine to_cl 2 (lv := [(0, am_R 3 i0), (1, am_R 4 i1), (2, am_R 2 i2)]) (st := []) (M := (x, z)) (cb := (cvI0 z)) rfl (fun q hq => t_X7_drawn (by omega) hq) (fun q1 => ?_)
  refine to_cl 1 (lv := [(0, am_R 3 i0), (1, am_R 4 i1), (2, am_R 2 i2)]) (st := []) (M := (q1.2, z)) (cb := (cvI0 z)) rfl (fun q hq => t_X8_actAt (by omega) hq) (fun q2 => ?_)
  refine to_if 4 (c := q2.1 = (9 : Int32)) (p1 := 54) (p2 := 14) (a' := ([(3, am_I q2.1), (0, am_R 3 i0), (1, am_R 4 i1), (2, am_R 2 i2)], ([], (q2.2, z)))) rfl (fun c_3 => ?_) (fun c_3 => ?_)
  · exact to_rt 1 rfl
  · refine to_cl 4 (lv := [(3, am_I q2.1), (0, am_R 3 i0), (1, am_R 4 i1), (2, am_R 2 i2)]) (st := []) (M := (q2.2, z)) (cb := (cvI0 z)) rfl (fun q hq => t_X6_isFreeTo (by omega) hq) (fun q4 => ?_)
    refine to_if 1 (c := q4.1 = 0) (p1 := 54) (p2 := 23) (a' := ([(3, am_I q2.1), (0, am_R 3 i0), (1, am_R 4 i1), (2, am_R 2 i2)], ([], (q4.2, z)))) rfl (fun c_5 => ?_) (fun c_5 => ?_)
    · exact to_rt 1 rfl
    · refine to_go 4 (pc' := 27) (a' := ([(3, am_I q2.1), (0, am_R 3 i0), (1, am_R 4 i1), (2, am_R 2 i2)], ([am_R 3 i0, am_R 2 i2, am_I q2.1, am_R 4 i1], (q4.2, z)))) rfl ?_
      refine to_cl 2 (lv := [(3, am_I q2.1), (0, am_R 3 i0), (1, am_R 4 i1), (2, am_R 2 i2)]) (st := []) (M := (q4.2, z)) (cb := (cvV0 z)) rfl (fun q hq => t_X6_does (by omega) hq) (fun q6 => ?_)
      refine to_go 4 (pc' := 39) (a' := ([(3, am_I q2.1), (0, am_R 3 i0), (1, am_R 4 i1), (2, am_R 2 i2)], ([am_I q2.1, am_I (xF q6 3 3 i0), am_R 3 i0], (q6, z)))) rfl ?_
      refine to_cl 1 (lv := [(3, am_I q2.1), (0, am_R 3 i0), (1, am_R 4 i1), (2, am_R 2 i2)]) (st := [am_I (xF q6 3 3 i0), am_R 3 i0]) (M := (q6, z)) (cb := (cvI0 z)) rfl (fun q hq => t_X8_isServing (by omega) hq) (fun q7 => ?_)
      refine to_if 1 (c := q7.1 = 0) (p1 := 49) (p2 := 45) (a' := ([(3, am_I q2.1), (0, am_R 3 i0), (1, am_R 4 i1), (2, am_R 2 i2)], ([am_I (xF q6 3 3 i0), am_R 3 i0], (q7.2, z)))) rfl (fun c_8 => ?_) (fun c_8 => ?_)
      · exact to_rt 4 rfl
      · refine to_go 4 (pc' := 54) (a' := ([(3, am_I q2.1), (0, am_R 3 i0), (1, am_R 4 i1), (2, am_R 2 i2)], ([], ((sF q7.2 3 3 i0 ((xF q6 3 3 i0) + (0 : Int32))), z)))) rfl ?_
        exact to_rt 1 rfl
def b_X7_live_54 (n : Nat) (h13 : Nat → Int32 → Nat → Int32 → am_X → Option (am_X)) (h22 : Nat → Int32 → Nat → Int32 → Int32 → am_X → Option (am_X)) (i0 : Nat) (v1 : Int32) (i3 : Nat) (v4 : Int32) (v5 : Int32) (x : am_X) : Option (am_X) := h22 i0 v1 i3 v4 (v5 + (1 : Int32)) x
theorem tb_X7_live_54 {n : Nat} {h13 : Nat → Int32 → Nat → Int32 → am_X → Option (am_X)} {h22 : Nat → Int32 → Nat → Int32 → Int32 → am_X → Option (am_X)} {d : Nat} {z : am_X} (hd : 5 ≤ d) (hh13 : ∀ (i0 : Nat) (v1 : Int32) (i3 : Nat) (v4 : Int32) (x : am_X), am_To d (am_tab pX7_live) 13 ([(0, am_R 3 i0), (1, am_I v1), (3, am_R 2 i3), (4, am_I v4)], ([], (x, z))) (cvV0 z) (h13 i0 v1 i3 v4 x)) (hh22 : ∀ (i0 : Nat) (v1 : Int32) (i3 : Nat) (v4 : Int32) (v5 : Int32) (x : am_X), am_To d (am_tab pX7_live) 22 ([(0, am_R 3 i0), (1, am_I v1), (3, am_R 2 i3), (4, am_I v4), (5, am_I v5)], ([], (x, z))) (cvV0 z) (h22 i0 v1 i3 v4 v5 x)) (i0 : Nat) (v1 : Int32) (i3 : Nat) (v4 : Int32) (v5 : Int32) (x : am_X) : am_To d (am_tab pX7_live) 54 ([(0, am_R 3 i0), (1, am_I v1), (3, am_R 2 i3), (4, am_I v4), (5, am_I v5)], ([], (x, z))) (cvV0 z) (b_X7_live_54 n h13 h22 i0 v1 i3 v4 v5 x) := by
  unfold b_X7_live_54
  refine to_go 2 (pc' := 22) (a' := ([(5, am_I (v5 + (1 : Int32))), (0, am_R 3 i0), (1, am_I v1), (3, am_R 2 i3), (4, am_I v4)], ([], (x, z)))) rfl ?_
  refine to_fg [1, 2, 3, 4, 0] (lv' := [(0, am_R 3 i0), (1, am_I v1), (3, am_R 2 i3), (4, am_I v4), (5, am_I (v5 + (1 : Int32)))]) rfl ?_
  exact hh22 i0 v1 i3 v4 (v5 + (1 : Int32)) x
def b_X7_live_22 (n : Nat) (h13 : Nat → Int32 → Nat → Int32 → am_X → Option (am_X)) : Nat → Nat → Int32 → Nat → Int32 → Int32 → am_X → Option (am_X)
  | 0, _, _, _, _, _, _ => none
  | k + 1, i0, v1, i3, v4, v5, x => if (xF x 3 1 i0) ≤ v5 then ((f_X7_passWeek n i0 i3 x).bind fun q2 => h13 i0 v1 i3 (v4 + (1 : Int32)) q2) else ((f_X7_one n i0 v5 x).bind fun q3 => if ¬ (xF q3.2 4 5 q3.1) = 0 then (b_X7_live_54 n h13 (b_X7_live_22 n h13 k) i0 v1 i3 v4 v5 q3.2) else ((f_X7_one n i0 v5 q3.2).bind fun q5 => (f_X7_actByDraw n i0 q5.1 i3 q5.2).bind fun q6 => b_X7_live_54 n h13 (b_X7_live_22 n h13 k) i0 v1 i3 v4 v5 q6))
theorem tb_X7_live_22 {n : Nat} {h13 : Nat → Int32 → Nat → Int32 → am_X → Option (am_X)} {d : Nat} {z : am_X} (hd : 5 ≤ d) (hh13 : ∀ (i0 : Nat) (v1 : Int32) (i3 : Nat) (v4 : Int32) (x : am_X), am_To d (am_tab pX7_live) 13 ([(0, am_R 3 i0), (1, am_I v1), (3, am_R 2 i3), (4, am_I v4)], ([], (x, z))) (cvV0 z) (h13 i0 v1 i3 v4 x)) : ∀ (k : Nat) (i0 : Nat) (v1 : Int32) (i3 : Nat) (v4 : Int32) (v5 : Int32) (x : am_X), am_To d (am_tab pX7_live) 22 ([(0, am_R 3 i0), (1, am_I v1), (3, am_R 2 i3), (4, am_I v4), (5, am_I v5)], ([], (x, z))) (cvV0 z) (b_X7_live_22 n h13 k i0 v1 i3 v4 v5 x) := by
  intro k
  induction k with
  | zero =>
    intro i0 v1 i3 v4 v5 x
    exact to_0
  | succ k ih =>
    intro i0 v1 i3 v4 v5 x
    rw [b_X7_live_22]
    refine to_if 4 (c := (xF x 3 1 i0) ≤ v5) (p1 := 60) (p2 := 31) (a' := ([(0, am_R 3 i0), (1, am_I v1), (3, am_R 2 i3), (4, am_I v4), (5, am_I v5)], ([], (x, z)))) rfl (fun c_1 => ?_) (fun c_1 => ?_)
    · refine to_cl 3 (lv := [(0, am_R 3 i0), (1, am_I v1), (3, am_R 2 i3), (4, am_I v4), (5, am_I v5)]) (st := []) (M := (x, z)) (cb := (cvV0 z)) rfl (fun q hq => t_X7_passWeek (by omega) hq) (fun q2 => ?_)
      refine to_go 2 (pc' := 13) (a' := ([(4, am_I (v4 + (1 : Int32))), (0, am_R 3 i0), (1, am_I v1), (3, am_R 2 i3), (5, am_I v5)], ([], (q2, z)))) rfl ?_
      refine to_fg [1, 2, 3, 0] (lv' := [(0, am_R 3 i0), (1, am_I v1), (3, am_R 2 i3), (4, am_I (v4 + (1 : Int32)))]) rfl ?_
      exact hh13 i0 v1 i3 (v4 + (1 : Int32)) q2
    · refine to_cl 3 (lv := [(0, am_R 3 i0), (1, am_I v1), (3, am_R 2 i3), (4, am_I v4), (5, am_I v5)]) (st := []) (M := (x, z)) (cb := (cvA0 4 z)) rfl (fun q hq => t_X7_one (by omega) hq) (fun q3 => ?_)
      refine to_if 2 (c := ¬ (xF q3.2 4 5 q3.1) = 0) (p1 := 54) (p2 := 43) (a' := ([(0, am_R 3 i0), (1, am_I v1), (3, am_R 2 i3), (4, am_I v4), (5, am_I v5)], ([], (q3.2, z)))) rfl (fun c_4 => ?_) (fun c_4 => ?_)
      · refine to_fg [0, 1, 2, 3, 4] (lv' := [(0, am_R 3 i0), (1, am_I v1), (3, am_R 2 i3), (4, am_I v4), (5, am_I v5)]) rfl ?_
        exact tb_X7_live_54 (by omega) hh13 ih  i0 v1 i3 v4 v5 q3.2
      · refine to_cl 4 (lv := [(0, am_R 3 i0), (1, am_I v1), (3, am_R 2 i3), (4, am_I v4), (5, am_I v5)]) (st := [am_R 3 i0]) (M := (q3.2, z)) (cb := (cvA0 4 z)) rfl (fun q hq => t_X7_one (by omega) hq) (fun q5 => ?_)
        refine to_cl 2 (lv := [(0, am_R 3 i0), (1, am_I v1), (3, am_R 2 i3), (4, am_I v4), (5, am_I v5)]) (st := []) (M := (q5.2, z)) (cb := (cvV0 z)) rfl (fun q hq => t_X7_actByDraw (by omega) hq) (fun q6 => ?_)
        refine to_fg [0, 1, 2, 3, 4] (lv' := [(0, am_R 3 i0), (1, am_I v1), (3, am_R 2 i3), (4, am_I v4), (5, am_I v5)]) rfl ?_
        exact tb_X7_live_54 (by omega) hh13 ih  i0 v1 i3 v4 v5 q6
def b_X7_live_13 (n : Nat) : Nat → Nat → Int32 → Nat → Int32 → am_X → Option (am_X)
  | 0, _, _, _, _, _ => none
  | k + 1, i0, v1, i3, v4, x => if v1 ≤ v4 then (some x) else (b_X7_live_22 n (b_X7_live_13 n k) n i0 v1 i3 v4 (0 : Int32) x)
theorem tb_X7_live_13 {n : Nat} {d : Nat} {z : am_X} (hd : 5 ≤ d) : ∀ (k : Nat) (i0 : Nat) (v1 : Int32) (i3 : Nat) (v4 : Int32) (x : am_X), am_To d (am_tab pX7_live) 13 ([(0, am_R 3 i0), (1, am_I v1), (3, am_R 2 i3), (4, am_I v4)], ([], (x, z))) (cvV0 z) (b_X7_live_13 n k i0 v1 i3 v4 x) := by
  intro k
  induction k with
  | zero =>
    intro i0 v1 i3 v4 x
    exact to_0
  | succ k ih =>
    intro i0 v1 i3 v4 x
    rw [b_X7_live_13]
    refine to_if 3 (c := v1 ≤ v4) (p1 := 71) (p2 := 19) (a' := ([(0, am_R 3 i0), (1, am_I v1), (3, am_R 2 i3), (4, am_I v4)], ([], (x, z)))) rfl (fun c_1 => ?_) (fun c_1 => ?_)
    · exact to_rt 1 rfl
    · refine to_go 2 (pc' := 22) (a' := ([(5, am_I (0 : Int32)), (0, am_R 3 i0), (1, am_I v1), (3, am_R 2 i3), (4, am_I v4)], ([], (x, z)))) rfl ?_
      refine to_fg [1, 2, 3, 4, 0] (lv' := [(0, am_R 3 i0), (1, am_I v1), (3, am_R 2 i3), (4, am_I v4), (5, am_I (0 : Int32))]) rfl ?_
      exact tb_X7_live_22 (by omega) ih  n i0 v1 i3 v4 (0 : Int32) x
def f_X7_live (n : Nat) (i0 : Nat) (v1 : Int32) (v2 : Int32) (i3 : Nat) (x : am_X) : Option (am_X) := b_X7_live_13 n n i0 v1 i3 (0 : Int32) (sF (sF x 3 3 i0 (0 : Int32)) 3 4 i0 v2)
theorem t_X7_live {n : Nat} {d : Nat} {i0 : Nat} {v1 : Int32} {v2 : Int32} {i3 : Nat} {x z : am_X} {q : am_X} (hd : 6 ≤ d) (h : f_X7_live n i0 v1 v2 i3 x = some q) : am_Ev am_PR d 69 [am_R 3 i0, am_I v1, am_I v2, am_R 2 i3] (x, z) (cvV0 z q) := by
  obtain ⟨d, rfl⟩ : ∃ e, d = e + 1 := ⟨d - 1, by omega⟩
  refine to_ev (P := (am_tab pX7_live)) rfl (lv := [(0, am_R 3 i0), (1, am_I v1), (2, am_I v2), (3, am_R 2 i3)]) rfl ?_ q h
  unfold f_X7_live
  refine to_go 4 (pc' := 6) (a' := ([(0, am_R 3 i0), (1, am_I v1), (2, am_I v2), (3, am_R 2 i3)], ([am_R 3 i0], ((sF x 3 3 i0 (0 : Int32)), z)))) rfl ?_
  refine to_go 4 (pc' := 13) (a' := ([(4, am_I (0 : Int32)), (0, am_R 3 i0), (1, am_I v1), (2, am_I v2), (3, am_R 2 i3)], ([], ((sF (sF x 3 3 i0 (0 : Int32)) 3 4 i0 v2), z)))) rfl ?_
  refine to_fg [1, 2, 4, 0] (lv' := [(0, am_R 3 i0), (1, am_I v1), (3, am_R 2 i3), (4, am_I (0 : Int32))]) rfl ?_
  exact tb_X7_live_13 (by omega)  n i0 v1 i3 (0 : Int32) (sF (sF x 3 3 i0 (0 : Int32)) 3 4 i0 v2)
def f_X8_letter (n : Nat) (i0 : Nat) (v1 : Int32) (x : am_X) : Option (Int32 × am_X) := if v1 < (32 : Int32) then (some ((-102 : Int32), x)) else (if v1 ≤ (126 : Int32) then ((f_X5_hasRoom n 0 x).bind fun q3 => if ¬ q3.1 = 0 then ((f_X5_write n 0 v1 q3.2).bind fun q5 => some ((xF q5 1 2 0), q5)) else (some ((-104 : Int32), q3.2))) else (some ((-102 : Int32), x)))
theorem t_X8_letter {n : Nat} {d : Nat} {i0 : Nat} {v1 : Int32} {x z : am_X} {q : Int32 × am_X} (hd : 2 ≤ d) (h : f_X8_letter n i0 v1 x = some q) : am_Ev am_PR d 72 [am_R 0 i0, am_I v1] (x, z) (cvI0 z q) := by
  obtain ⟨d, rfl⟩ : ∃ e, d = e + 1 := ⟨d - 1, by omega⟩
  refine to_ev (P := (am_tab pX8_letter)) rfl (lv := [(0, am_R 0 i0), (1, am_I v1)]) rfl ?_ q h
  unfold f_X8_letter
  refine to_if 3 (c := v1 < (32 : Int32)) (p1 := 12) (p2 := 6) (a' := ([(0, am_R 0 i0), (1, am_I v1)], ([], (x, z)))) rfl (fun c_1 => ?_) (fun c_1 => ?_)
  · exact to_rt 2 (r := ((-102 : Int32), x)) rfl
  · refine to_if 3 (c := v1 ≤ (126 : Int32)) (p1 := 15) (p2 := 12) (a' := ([(0, am_R 0 i0), (1, am_I v1)], ([], (x, z)))) rfl (fun c_2 => ?_) (fun c_2 => ?_)
    · refine to_cl 3 (lv := [(0, am_R 0 i0), (1, am_I v1)]) (st := []) (M := (x, z)) (cb := (cvI0 z)) rfl (fun q hq => t_X5_hasRoom (by omega) hq) (fun q3 => ?_)
      refine to_if 1 (c := ¬ q3.1 = 0) (p1 := 28) (p2 := 25) (a' := ([(0, am_R 0 i0), (1, am_I v1)], ([], (q3.2, z)))) rfl (fun c_4 => ?_) (fun c_4 => ?_)
      · refine to_cl 4 (lv := [(0, am_R 0 i0), (1, am_I v1)]) (st := []) (M := (q3.2, z)) (cb := (cvV0 z)) rfl (fun q hq => t_X5_write (by omega) hq) (fun q5 => ?_)
        exact to_rt 4 (r := ((xF q5 1 2 0), q5)) rfl
      · exact to_rt 2 (r := ((-104 : Int32), q3.2)) rfl
    · exact to_rt 2 (r := ((-102 : Int32), x)) rfl
def f_X8_blank (n : Nat) (i0 : Nat) (x : am_X) : Option (Int32 × am_X) := some ((xF x 1 2 0), (sF x 1 2 0 (0 : Int32)))
theorem t_X8_blank {n : Nat} {d : Nat} {i0 : Nat} {x z : am_X} {q : Int32 × am_X} (hd : 1 ≤ d) (h : f_X8_blank n i0 x = some q) : am_Ev am_PR d 73 [am_R 0 i0] (x, z) (cvI0 z q) := by
  obtain ⟨d, rfl⟩ : ∃ e, d = e + 1 := ⟨d - 1, by omega⟩
  refine to_ev (P := (am_tab pX8_blank)) rfl (lv := [(0, am_R 0 i0)]) rfl ?_ q h
  unfold f_X8_blank
  refine to_go 4 (pc' := 8) (a' := ([(1, am_I (xF x 1 2 0)), (0, am_R 0 i0)], ([], (x, z)))) rfl ?_
  refine to_go 4 (pc' := 16) (a' := ([(1, am_I (xF x 1 2 0)), (0, am_R 0 i0)], ([], ((sF x 1 2 0 (0 : Int32)), z)))) rfl ?_
  exact to_rt 2 (r := ((xF x 1 2 0), (sF x 1 2 0 (0 : Int32)))) rfl
def f_X8_fault (n : Nat) (i0 : Nat) (x : am_X) : Option (Int32 × am_X) := (f_X5_firstFault n 0 x).bind fun q1 => some (q1.1, q1.2)
theorem t_X8_fault {n : Nat} {d : Nat} {i0 : Nat} {x z : am_X} {q : Int32 × am_X} (hd : 5 ≤ d) (h : f_X8_fault n i0 x = some q) : am_Ev am_PR d 74 [am_R 0 i0] (x, z) (cvI0 z q) := by
  obtain ⟨d, rfl⟩ : ∃ e, d = e + 1 := ⟨d - 1, by omega⟩
  refine to_ev (P := (am_tab pX8_fault)) rfl (lv := [(0, am_R 0 i0)]) rfl ?_ q h
  unfold f_X8_fault
  refine to_cl 3 (lv := [(0, am_R 0 i0)]) (st := []) (M := (x, z)) (cb := (cvI0 z)) rfl (fun q hq => t_X5_firstFault (by omega) hq) (fun q1 => ?_)
  exact to_rt 1 (r := (q1.1, q1.2)) rfl
def f_X8_law (n : Nat) (i0 : Nat) (x : am_X) : Option (Int32 × am_X) := (f_X5_isLaw n 0 x).bind fun q1 => if ¬ q1.1 = 0 then ((f_X3_copy n 0 1 q1.2).bind fun q3 => (f_X4_close n 0 (sF (sF q3 0 9 i0 ((xF q3 0 9 i0) + (1 : Int32))) 1 2 0 (0 : Int32))).bind fun q4 => (f_X7_dropLapsed n 0 0 q4).bind fun q5 => (f_X3_allTerms n 0 q5).bind fun q6 => some (q6.1, q6.2)) else (some ((-103 : Int32), q1.2))
theorem t_X8_law {n : Nat} {d : Nat} {i0 : Nat} {x z : am_X} {q : Int32 × am_X} (hd : 6 ≤ d) (h : f_X8_law n i0 x = some q) : am_Ev am_PR d 75 [am_R 0 i0] (x, z) (cvI0 z q) := by
  obtain ⟨d, rfl⟩ : ∃ e, d = e + 1 := ⟨d - 1, by omega⟩
  refine to_ev (P := (am_tab pX8_law)) rfl (lv := [(0, am_R 0 i0)]) rfl ?_ q h
  unfold f_X8_law
  refine to_cl 3 (lv := [(0, am_R 0 i0)]) (st := []) (M := (x, z)) (cb := (cvI0 z)) rfl (fun q hq => t_X5_isLaw (by omega) hq) (fun q1 => ?_)
  refine to_if 1 (c := ¬ q1.1 = 0) (p1 := 13) (p2 := 10) (a' := ([(0, am_R 0 i0)], ([], (q1.2, z)))) rfl (fun c_2 => ?_) (fun c_2 => ?_)
  · refine to_go 4 (pc' := 21) (a' := ([(0, am_R 0 i0)], ([am_R 1 0, am_R 2 0], (q1.2, z)))) rfl ?_
    refine to_cl 2 (lv := [(0, am_R 0 i0)]) (st := []) (M := (q1.2, z)) (cb := (cvV0 z)) rfl (fun q hq => t_X3_copy (by omega) hq) (fun q3 => ?_)
    refine to_go 4 (pc' := 33) (a' := ([(0, am_R 0 i0)], ([am_I (1 : Int32), am_I (xF q3 0 9 i0), am_R 0 i0], (q3, z)))) rfl ?_
    refine to_go 4 (pc' := 41) (a' := ([(0, am_R 0 i0)], ([am_R 1 0], ((sF q3 0 9 i0 ((xF q3 0 9 i0) + (1 : Int32))), z)))) rfl ?_
    refine to_go 4 (pc' := 49) (a' := ([(0, am_R 0 i0)], ([am_R 7 0], ((sF (sF q3 0 9 i0 ((xF q3 0 9 i0) + (1 : Int32))) 1 2 0 (0 : Int32)), z)))) rfl ?_
    refine to_cl 1 (lv := [(0, am_R 0 i0)]) (st := []) (M := ((sF (sF q3 0 9 i0 ((xF q3 0 9 i0) + (1 : Int32))) 1 2 0 (0 : Int32)), z)) (cb := (cvV0 z)) rfl (fun q hq => t_X4_close (by omega) hq) (fun q4 => ?_)
    refine to_go 4 (pc' := 60) (a' := ([(0, am_R 0 i0)], ([am_R 2 0, am_R 3 0], (q4, z)))) rfl ?_
    refine to_cl 1 (lv := [(0, am_R 0 i0)]) (st := []) (M := (q4, z)) (cb := (cvV0 z)) rfl (fun q hq => t_X7_dropLapsed (by omega) hq) (fun q5 => ?_)
    refine to_cl 3 (lv := [(0, am_R 0 i0)]) (st := []) (M := (q5, z)) (cb := (cvI0 z)) rfl (fun q hq => t_X3_allTerms (by omega) hq) (fun q6 => ?_)
    exact to_rt 1 (r := (q6.1, q6.2)) rfl
  · exact to_rt 2 (r := ((-103 : Int32), q1.2)) rfl
def f_X8_deed (n : Nat) (i0 : Nat) (v1 : Int32) (v2 : Int32) (x : am_X) : Option (Int32 × am_X) := (f_X8_isDeed n v1 x).bind fun q1 => if ¬ q1.1 = 0 then (if v2 < 0 then (some ((-102 : Int32), q1.2)) else (if v2 < (3 : Int32) then (if ¬ (xF q1.2 0 9 i0) = 0 then (if ¬ v2 = 0 then (if ¬ v2 = (1 : Int32) then ((f_X3_sortsOf n 0 v1 q1.2).bind fun q8 => some (q8.1, q8.2)) else ((f_X3_worthOf n 0 v1 q1.2).bind fun q9 => some (q9.1, q9.2))) else ((f_X3_termOf n 0 v1 q1.2).bind fun q10 => some (q10.1, q10.2))) else (some ((-103 : Int32), q1.2))) else (some ((-102 : Int32), q1.2)))) else (some ((-101 : Int32), q1.2))
theorem t_X8_deed {n : Nat} {d : Nat} {i0 : Nat} {v1 : Int32} {v2 : Int32} {x z : am_X} {q : Int32 × am_X} (hd : 3 ≤ d) (h : f_X8_deed n i0 v1 v2 x = some q) : am_Ev am_PR d 76 [am_R 0 i0, am_I v1, am_I v2] (x, z) (cvI0 z q) := by
  obtain ⟨d, rfl⟩ : ∃ e, d = e + 1 := ⟨d - 1, by omega⟩
  refine to_ev (P := (am_tab pX8_deed)) rfl (lv := [(0, am_R 0 i0), (1, am_I v1), (2, am_I v2)]) rfl ?_ q h
  unfold f_X8_deed
  refine to_cl 2 (lv := [(0, am_R 0 i0), (1, am_I v1), (2, am_I v2)]) (st := []) (M := (x, z)) (cb := (cvI0 z)) rfl (fun q hq => t_X8_isDeed (by omega) hq) (fun q1 => ?_)
  refine to_if 1 (c := ¬ q1.1 = 0) (p1 := 10) (p2 := 7) (a' := ([(0, am_R 0 i0), (1, am_I v1), (2, am_I v2)], ([], (q1.2, z)))) rfl (fun c_2 => ?_) (fun c_2 => ?_)
  · refine to_if 2 (c := v2 < 0) (p1 := 19) (p2 := 14) (a' := ([(0, am_R 0 i0), (1, am_I v1), (2, am_I v2)], ([], (q1.2, z)))) rfl (fun c_3 => ?_) (fun c_3 => ?_)
    · exact to_rt 2 (r := ((-102 : Int32), q1.2)) rfl
    · refine to_if 3 (c := v2 < (3 : Int32)) (p1 := 22) (p2 := 19) (a' := ([(0, am_R 0 i0), (1, am_I v1), (2, am_I v2)], ([], (q1.2, z)))) rfl (fun c_4 => ?_) (fun c_4 => ?_)
      · refine to_if 3 (c := ¬ (xF q1.2 0 9 i0) = 0) (p1 := 32) (p2 := 29) (a' := ([(0, am_R 0 i0), (1, am_I v1), (2, am_I v2)], ([], (q1.2, z)))) rfl (fun c_5 => ?_) (fun c_5 => ?_)
        · refine to_if 2 (c := ¬ v2 = 0) (p1 := 45) (p2 := 36) (a' := ([(0, am_R 0 i0), (1, am_I v1), (2, am_I v2)], ([], (q1.2, z)))) rfl (fun c_6 => ?_) (fun c_6 => ?_)
          · refine to_if 3 (c := ¬ v2 = (1 : Int32)) (p1 := 61) (p2 := 50) (a' := ([(0, am_R 0 i0), (1, am_I v1), (2, am_I v2)], ([], (q1.2, z)))) rfl (fun c_7 => ?_) (fun c_7 => ?_)
            · refine to_cl 4 (lv := [(0, am_R 0 i0), (1, am_I v1), (2, am_I v2)]) (st := []) (M := (q1.2, z)) (cb := (cvI0 z)) rfl (fun q hq => t_X3_sortsOf (by omega) hq) (fun q8 => ?_)
              exact to_rt 1 (r := (q8.1, q8.2)) rfl
            · refine to_cl 4 (lv := [(0, am_R 0 i0), (1, am_I v1), (2, am_I v2)]) (st := []) (M := (q1.2, z)) (cb := (cvI0 z)) rfl (fun q hq => t_X3_worthOf (by omega) hq) (fun q9 => ?_)
              exact to_rt 2 (r := (q9.1, q9.2)) rfl
          · refine to_cl 4 (lv := [(0, am_R 0 i0), (1, am_I v1), (2, am_I v2)]) (st := []) (M := (q1.2, z)) (cb := (cvI0 z)) rfl (fun q hq => t_X3_termOf (by omega) hq) (fun q10 => ?_)
            exact to_rt 1 (r := (q10.1, q10.2)) rfl
        · exact to_rt 2 (r := ((-103 : Int32), q1.2)) rfl
      · exact to_rt 2 (r := ((-102 : Int32), q1.2)) rfl
  · exact to_rt 2 (r := ((-101 : Int32), q1.2)) rfl
def f_X8_person (n : Nat) (i0 : Nat) (v1 : Int32) (x : am_X) : Option (Int32 × am_X) := (f_X2_isNumber n v1 x).bind fun q1 => if ¬ q1.1 = 0 then (if ¬ (xF q1.2 0 9 i0) = 0 then ((f_X7_hasRoom n 0 q1.2).bind fun q4 => if ¬ q4.1 = 0 then ((f_X2_numbered n v1 q4.2).bind fun q6 => (f_X7_welcome n 0 q6.1 q6.2).bind fun q7 => some (q7.1, q7.2)) else (some ((-104 : Int32), q4.2))) else (some ((-103 : Int32), q1.2))) else (some ((-102 : Int32), q1.2))
theorem t_X8_person {n : Nat} {d : Nat} {i0 : Nat} {v1 : Int32} {x z : am_X} {q : Int32 × am_X} (hd : 3 ≤ d) (h : f_X8_person n i0 v1 x = some q) : am_Ev am_PR d 77 [am_R 0 i0, am_I v1] (x, z) (cvI0 z q) := by
  obtain ⟨d, rfl⟩ : ∃ e, d = e + 1 := ⟨d - 1, by omega⟩
  refine to_ev (P := (am_tab pX8_person)) rfl (lv := [(0, am_R 0 i0), (1, am_I v1)]) rfl ?_ q h
  unfold f_X8_person
  refine to_cl 2 (lv := [(0, am_R 0 i0), (1, am_I v1)]) (st := []) (M := (x, z)) (cb := (cvI0 z)) rfl (fun q hq => t_X2_isNumber (by omega) hq) (fun q1 => ?_)
  refine to_if 1 (c := ¬ q1.1 = 0) (p1 := 10) (p2 := 7) (a' := ([(0, am_R 0 i0), (1, am_I v1)], ([], (q1.2, z)))) rfl (fun c_2 => ?_) (fun c_2 => ?_)
  · refine to_if 3 (c := ¬ (xF q1.2 0 9 i0) = 0) (p1 := 20) (p2 := 17) (a' := ([(0, am_R 0 i0), (1, am_I v1)], ([], (q1.2, z)))) rfl (fun c_3 => ?_) (fun c_3 => ?_)
    · refine to_cl 3 (lv := [(0, am_R 0 i0), (1, am_I v1)]) (st := []) (M := (q1.2, z)) (cb := (cvI0 z)) rfl (fun q hq => t_X7_hasRoom (by omega) hq) (fun q4 => ?_)
      refine to_if 1 (c := ¬ q4.1 = 0) (p1 := 33) (p2 := 30) (a' := ([(0, am_R 0 i0), (1, am_I v1)], ([], (q4.2, z)))) rfl (fun c_5 => ?_) (fun c_5 => ?_)
      · refine to_cl 4 (lv := [(0, am_R 0 i0), (1, am_I v1)]) (st := [am_R 3 0]) (M := (q4.2, z)) (cb := (cvA0 20 z)) rfl (fun q hq => t_X2_numbered (by omega) hq) (fun q6 => ?_)
        refine to_cl 1 (lv := [(0, am_R 0 i0), (1, am_I v1)]) (st := []) (M := (q6.2, z)) (cb := (cvI0 z)) rfl (fun q hq => t_X7_welcome (by omega) hq) (fun q7 => ?_)
        exact to_rt 1 (r := (q7.1, q7.2)) rfl
      · exact to_rt 2 (r := ((-104 : Int32), q4.2)) rfl
    · exact to_rt 2 (r := ((-103 : Int32), q1.2)) rfl
  · exact to_rt 2 (r := ((-102 : Int32), q1.2)) rfl
def f_X8_about (n : Nat) (i0 : Nat) (v1 : Int32) (v2 : Int32) (x : am_X) : Option (Int32 × am_X) := (f_X7_isKnown n 0 v1 x).bind fun q1 => if ¬ q1.1 = 0 then (if v2 < 0 then (some ((-102 : Int32), q1.2)) else (if v2 < (10 : Int32) then ((f_X7_one n 0 v1 q1.2).bind fun q5 => (f_X6_told n q5.1 v2 q5.2).bind fun q6 => some (q6.1, q6.2)) else (some ((-102 : Int32), q1.2)))) else (some ((-101 : Int32), q1.2))
theorem t_X8_about {n : Nat} {d : Nat} {i0 : Nat} {v1 : Int32} {v2 : Int32} {x z : am_X} {q : Int32 × am_X} (hd : 4 ≤ d) (h : f_X8_about n i0 v1 v2 x = some q) : am_Ev am_PR d 78 [am_R 0 i0, am_I v1, am_I v2] (x, z) (cvI0 z q) := by
  obtain ⟨d, rfl⟩ : ∃ e, d = e + 1 := ⟨d - 1, by omega⟩
  refine to_ev (P := (am_tab pX8_about)) rfl (lv := [(0, am_R 0 i0), (1, am_I v1), (2, am_I v2)]) rfl ?_ q h
  unfold f_X8_about
  refine to_cl 4 (lv := [(0, am_R 0 i0), (1, am_I v1), (2, am_I v2)]) (st := []) (M := (x, z)) (cb := (cvI0 z)) rfl (fun q hq => t_X7_isKnown (by omega) hq) (fun q1 => ?_)
  refine to_if 1 (c := ¬ q1.1 = 0) (p1 := 14) (p2 := 11) (a' := ([(0, am_R 0 i0), (1, am_I v1), (2, am_I v2)], ([], (q1.2, z)))) rfl (fun c_2 => ?_) (fun c_2 => ?_)
  · refine to_if 2 (c := v2 < 0) (p1 := 24) (p2 := 18) (a' := ([(0, am_R 0 i0), (1, am_I v1), (2, am_I v2)], ([], (q1.2, z)))) rfl (fun c_3 => ?_) (fun c_3 => ?_)
    · exact to_rt 2 (r := ((-102 : Int32), q1.2)) rfl
    · refine to_if 3 (c := v2 < (10 : Int32)) (p1 := 27) (p2 := 24) (a' := ([(0, am_R 0 i0), (1, am_I v1), (2, am_I v2)], ([], (q1.2, z)))) rfl (fun c_4 => ?_) (fun c_4 => ?_)
      · refine to_cl 4 (lv := [(0, am_R 0 i0), (1, am_I v1), (2, am_I v2)]) (st := []) (M := (q1.2, z)) (cb := (cvA0 4 z)) rfl (fun q hq => t_X7_one (by omega) hq) (fun q5 => ?_)
        refine to_cl 2 (lv := [(0, am_R 0 i0), (1, am_I v1), (2, am_I v2)]) (st := []) (M := (q5.2, z)) (cb := (cvI0 z)) rfl (fun q hq => t_X6_told (by omega) hq) (fun q6 => ?_)
        exact to_rt 1 (r := (q6.1, q6.2)) rfl
      · exact to_rt 2 (r := ((-102 : Int32), q1.2)) rfl
  · exact to_rt 2 (r := ((-101 : Int32), q1.2)) rfl
def f_X8_as (n : Nat) (i0 : Nat) (v1 : Int32) (v2 : Int32) (x : am_X) : Option (Int32 × am_X) := (f_X7_isKnown n 0 v1 x).bind fun q1 => if ¬ q1.1 = 0 then ((f_X2_isNumber n v2 q1.2).bind fun q3 => if ¬ q3.1 = 0 then ((f_X7_one n 0 v1 q3.2).bind fun q5 => (f_X2_numbered n v2 q5.2).bind fun q6 => (f_X2_isA n (xK q5.2 q5.1) q6.1 q6.2).bind fun q7 => if q7.1 = 0 then (some ((-1 : Int32), q7.2)) else (some (v1, q7.2))) else (some ((-102 : Int32), q3.2))) else (some ((-101 : Int32), q1.2))
theorem t_X8_as {n : Nat} {d : Nat} {i0 : Nat} {v1 : Int32} {v2 : Int32} {x z : am_X} {q : Int32 × am_X} (hd : 2 ≤ d) (h : f_X8_as n i0 v1 v2 x = some q) : am_Ev am_PR d 79 [am_R 0 i0, am_I v1, am_I v2] (x, z) (cvI0 z q) := by
  obtain ⟨d, rfl⟩ : ∃ e, d = e + 1 := ⟨d - 1, by omega⟩
  refine to_ev (P := (am_tab pX8_as)) rfl (lv := [(0, am_R 0 i0), (1, am_I v1), (2, am_I v2)]) rfl ?_ q h
  unfold f_X8_as
  refine to_cl 4 (lv := [(0, am_R 0 i0), (1, am_I v1), (2, am_I v2)]) (st := []) (M := (x, z)) (cb := (cvI0 z)) rfl (fun q hq => t_X7_isKnown (by omega) hq) (fun q1 => ?_)
  refine to_if 1 (c := ¬ q1.1 = 0) (p1 := 14) (p2 := 11) (a' := ([(0, am_R 0 i0), (1, am_I v1), (2, am_I v2)], ([], (q1.2, z)))) rfl (fun c_2 => ?_) (fun c_2 => ?_)
  · refine to_cl 2 (lv := [(0, am_R 0 i0), (1, am_I v1), (2, am_I v2)]) (st := []) (M := (q1.2, z)) (cb := (cvI0 z)) rfl (fun q hq => t_X2_isNumber (by omega) hq) (fun q3 => ?_)
    refine to_if 1 (c := ¬ q3.1 = 0) (p1 := 24) (p2 := 21) (a' := ([(0, am_R 0 i0), (1, am_I v1), (2, am_I v2)], ([], (q3.2, z)))) rfl (fun c_4 => ?_) (fun c_4 => ?_)
    · refine to_cl 4 (lv := [(0, am_R 0 i0), (1, am_I v1), (2, am_I v2)]) (st := []) (M := (q3.2, z)) (cb := (cvA0 4 z)) rfl (fun q hq => t_X7_one (by omega) hq) (fun q5 => ?_)
      refine to_cl 3 (lv := [(0, am_R 0 i0), (1, am_I v1), (2, am_I v2)]) (st := [am_R 20 (xK q5.2 q5.1)]) (M := (q5.2, z)) (cb := (cvA0 20 z)) rfl (fun q hq => t_X2_numbered (by omega) hq) (fun q6 => ?_)
      refine to_cl 1 (lv := [(0, am_R 0 i0), (1, am_I v1), (2, am_I v2)]) (st := []) (M := (q6.2, z)) (cb := (cvI0 z)) rfl (fun q hq => t_X2_isA (by omega) hq) (fun q7 => ?_)
      refine to_if 1 (c := q7.1 = 0) (p1 := 49) (p2 := 45) (a' := ([(0, am_R 0 i0), (1, am_I v1), (2, am_I v2)], ([], (q7.2, z)))) rfl (fun c_8 => ?_) (fun c_8 => ?_)
      · exact to_rt 2 (r := ((-1 : Int32), q7.2)) rfl
      · exact to_rt 3 (r := (v1, q7.2)) rfl
    · exact to_rt 2 (r := ((-102 : Int32), q3.2)) rfl
  · exact to_rt 2 (r := ((-101 : Int32), q1.2)) rfl
def f_X8_isAct (n : Nat) (v0 : Int32) (x : am_X) : Option (Int32 × am_X) := (f_X8_isServing n v0 x).bind fun q1 => if ¬ q1.1 = 0 then (some ((1 : Int32), q1.2)) else ((f_X8_isCoveredDeed n v0 q1.2).bind fun q3 => if ¬ q3.1 = 0 then (some ((1 : Int32), q3.2)) else ((f_X8_isBareDeed n v0 q3.2).bind fun q5 => if q5.1 = 0 then (some ((0 : Int32), q5.2)) else (some ((1 : Int32), q5.2))))
theorem t_X8_isAct {n : Nat} {d : Nat} {v0 : Int32} {x z : am_X} {q : Int32 × am_X} (hd : 2 ≤ d) (h : f_X8_isAct n v0 x = some q) : am_Ev am_PR d 106 [am_I v0] (x, z) (cvI0 z q) := by
  obtain ⟨d, rfl⟩ : ∃ e, d = e + 1 := ⟨d - 1, by omega⟩
  refine to_ev (P := (am_tab pX8_isAct)) rfl (lv := [(0, am_I v0)]) rfl ?_ q h
  unfold f_X8_isAct
  refine to_cl 2 (lv := [(0, am_I v0)]) (st := []) (M := (x, z)) (cb := (cvI0 z)) rfl (fun q hq => t_X8_isServing (by omega) hq) (fun q1 => ?_)
  refine to_if 1 (c := ¬ q1.1 = 0) (p1 := 21) (p2 := 7) (a' := ([(0, am_I v0)], ([], (q1.2, z)))) rfl (fun c_2 => ?_) (fun c_2 => ?_)
  · exact to_rk 2 26 (c := am_bz (1 : Int32) = true) (r := ((1 : Int32), q1.2)) rfl rfl (by decide)
  · refine to_cl 2 (lv := [(0, am_I v0)]) (st := []) (M := (q1.2, z)) (cb := (cvI0 z)) rfl (fun q hq => t_X8_isCoveredDeed (by omega) hq) (fun q3 => ?_)
    refine to_if 1 (c := ¬ q3.1 = 0) (p1 := 21) (p2 := 14) (a' := ([(0, am_I v0)], ([], (q3.2, z)))) rfl (fun c_4 => ?_) (fun c_4 => ?_)
    · exact to_rk 2 26 (c := am_bz (1 : Int32) = true) (r := ((1 : Int32), q3.2)) rfl rfl (by decide)
    · refine to_cl 2 (lv := [(0, am_I v0)]) (st := []) (M := (q3.2, z)) (cb := (cvI0 z)) rfl (fun q hq => t_X8_isBareDeed (by omega) hq) (fun q5 => ?_)
      refine to_if 1 (c := q5.1 = 0) (p1 := 25) (p2 := 21) (a' := ([(0, am_I v0)], ([], (q5.2, z)))) rfl (fun c_6 => ?_) (fun c_6 => ?_)
      · exact to_rk 1 26 (c := am_bz (0 : Int32) = true) (r := ((0 : Int32), q5.2)) rfl rfl (by decide)
      · exact to_rk 2 26 (c := am_bz (1 : Int32) = true) (r := ((1 : Int32), q5.2)) rfl rfl (by decide)
def f_X8_may (n : Nat) (i0 : Nat) (v1 : Int32) (v2 : Int32) (x : am_X) : Option (Int32 × am_X) := (f_X7_isHere n 0 v1 x).bind fun q1 => if q1.1 = 0 then (some ((-101 : Int32), q1.2)) else ((f_X8_isAct n v2 q1.2).bind fun q3 => if ¬ q3.1 = 0 then ((f_X7_one n 0 v1 q3.2).bind fun q5 => (f_X6_isFreeTo n q5.1 v2 0 q5.2).bind fun q6 => if q6.1 = 0 then (some ((0 : Int32), q6.2)) else (some ((1 : Int32), q6.2))) else (some ((-101 : Int32), q3.2)))
theorem t_X8_may {n : Nat} {d : Nat} {i0 : Nat} {v1 : Int32} {v2 : Int32} {x z : am_X} {q : Int32 × am_X} (hd : 5 ≤ d) (h : f_X8_may n i0 v1 v2 x = some q) : am_Ev am_PR d 80 [am_R 0 i0, am_I v1, am_I v2] (x, z) (cvI0 z q) := by
  obtain ⟨d, rfl⟩ : ∃ e, d = e + 1 := ⟨d - 1, by omega⟩
  refine to_ev (P := (am_tab pX8_may)) rfl (lv := [(0, am_R 0 i0), (1, am_I v1), (2, am_I v2)]) rfl ?_ q h
  unfold f_X8_may
  refine to_cl 4 (lv := [(0, am_R 0 i0), (1, am_I v1), (2, am_I v2)]) (st := []) (M := (x, z)) (cb := (cvI0 z)) rfl (fun q hq => t_X7_isHere (by omega) hq) (fun q1 => ?_)
  refine to_if 1 (c := q1.1 = 0) (p1 := 18) (p2 := 11) (a' := ([(0, am_R 0 i0), (1, am_I v1), (2, am_I v2)], ([], (q1.2, z)))) rfl (fun c_2 => ?_) (fun c_2 => ?_)
  · exact to_rt 2 (r := ((-101 : Int32), q1.2)) rfl
  · refine to_cl 2 (lv := [(0, am_R 0 i0), (1, am_I v1), (2, am_I v2)]) (st := []) (M := (q1.2, z)) (cb := (cvI0 z)) rfl (fun q hq => t_X8_isAct (by omega) hq) (fun q3 => ?_)
    refine to_if 1 (c := ¬ q3.1 = 0) (p1 := 21) (p2 := 18) (a' := ([(0, am_R 0 i0), (1, am_I v1), (2, am_I v2)], ([], (q3.2, z)))) rfl (fun c_4 => ?_) (fun c_4 => ?_)
    · refine to_cl 4 (lv := [(0, am_R 0 i0), (1, am_I v1), (2, am_I v2)]) (st := []) (M := (q3.2, z)) (cb := (cvA0 4 z)) rfl (fun q hq => t_X7_one (by omega) hq) (fun q5 => ?_)
      refine to_cl 4 (lv := [(0, am_R 0 i0), (1, am_I v1), (2, am_I v2)]) (st := []) (M := (q5.2, z)) (cb := (cvI0 z)) rfl (fun q hq => t_X6_isFreeTo (by omega) hq) (fun q6 => ?_)
      refine to_if 1 (c := q6.1 = 0) (p1 := 44) (p2 := 40) (a' := ([(0, am_R 0 i0), (1, am_I v1), (2, am_I v2)], ([], (q6.2, z)))) rfl (fun c_7 => ?_) (fun c_7 => ?_)
      · exact to_rt 2 (r := ((0 : Int32), q6.2)) rfl
      · exact to_rt 3 (r := ((1 : Int32), q6.2)) rfl
    · exact to_rt 2 (r := ((-101 : Int32), q3.2)) rfl
def f_X8_act (n : Nat) (i0 : Nat) (v1 : Int32) (v2 : Int32) (x : am_X) : Option (Int32 × am_X) := (f_X7_isHere n 0 v1 x).bind fun q1 => if q1.1 = 0 then (some ((-101 : Int32), q1.2)) else ((f_X8_isAct n v2 q1.2).bind fun q3 => if ¬ q3.1 = 0 then ((f_X7_one n 0 v1 q3.2).bind fun q5 => (f_X6_isFreeTo n q5.1 v2 0 q5.2).bind fun q6 => if ¬ q6.1 = 0 then ((f_X6_does n q5.1 v2 0 (xF q6.2 3 2 0) q6.2).bind fun q8 => some ((xF q8 4 2 q5.1), q8)) else (some ((-103 : Int32), q6.2))) else (some ((-101 : Int32), q3.2)))
theorem t_X8_act {n : Nat} {d : Nat} {i0 : Nat} {v1 : Int32} {v2 : Int32} {x z : am_X} {q : Int32 × am_X} (hd : 5 ≤ d) (h : f_X8_act n i0 v1 v2 x = some q) : am_Ev am_PR d 81 [am_R 0 i0, am_I v1, am_I v2] (x, z) (cvI0 z q) := by
  obtain ⟨d, rfl⟩ : ∃ e, d = e + 1 := ⟨d - 1, by omega⟩
  refine to_ev (P := (am_tab pX8_act)) rfl (lv := [(0, am_R 0 i0), (1, am_I v1), (2, am_I v2)]) rfl ?_ q h
  unfold f_X8_act
  refine to_cl 4 (lv := [(0, am_R 0 i0), (1, am_I v1), (2, am_I v2)]) (st := []) (M := (x, z)) (cb := (cvI0 z)) rfl (fun q hq => t_X7_isHere (by omega) hq) (fun q1 => ?_)
  refine to_if 1 (c := q1.1 = 0) (p1 := 18) (p2 := 11) (a' := ([(0, am_R 0 i0), (1, am_I v1), (2, am_I v2)], ([], (q1.2, z)))) rfl (fun c_2 => ?_) (fun c_2 => ?_)
  · exact to_rt 2 (r := ((-101 : Int32), q1.2)) rfl
  · refine to_cl 2 (lv := [(0, am_R 0 i0), (1, am_I v1), (2, am_I v2)]) (st := []) (M := (q1.2, z)) (cb := (cvI0 z)) rfl (fun q hq => t_X8_isAct (by omega) hq) (fun q3 => ?_)
    refine to_if 1 (c := ¬ q3.1 = 0) (p1 := 21) (p2 := 18) (a' := ([(0, am_R 0 i0), (1, am_I v1), (2, am_I v2)], ([], (q3.2, z)))) rfl (fun c_4 => ?_) (fun c_4 => ?_)
    · refine to_cl 4 (lv := [(0, am_R 0 i0), (1, am_I v1), (2, am_I v2)]) (st := []) (M := (q3.2, z)) (cb := (cvA0 4 z)) rfl (fun q hq => t_X7_one (by omega) hq) (fun q5 => ?_)
      refine to_go 4 (pc' := 33) (a' := ([(3, am_R 4 q5.1), (0, am_R 0 i0), (1, am_I v1), (2, am_I v2)], ([am_R 0 i0, am_I v2, am_R 4 q5.1], (q5.2, z)))) rfl ?_
      refine to_cl 2 (lv := [(3, am_R 4 q5.1), (0, am_R 0 i0), (1, am_I v1), (2, am_I v2)]) (st := []) (M := (q5.2, z)) (cb := (cvI0 z)) rfl (fun q hq => t_X6_isFreeTo (by omega) hq) (fun q6 => ?_)
      refine to_if 1 (c := ¬ q6.1 = 0) (p1 := 45) (p2 := 42) (a' := ([(3, am_R 4 q5.1), (0, am_R 0 i0), (1, am_I v1), (2, am_I v2)], ([], (q6.2, z)))) rfl (fun c_7 => ?_) (fun c_7 => ?_)
      · refine to_go 4 (pc' := 51) (a' := ([(3, am_R 4 q5.1), (0, am_R 0 i0), (1, am_I v1), (2, am_I v2)], ([am_R 2 0, am_I v2, am_R 4 q5.1], (q6.2, z)))) rfl ?_
        refine to_cl 4 (lv := [(3, am_R 4 q5.1), (0, am_R 0 i0), (1, am_I v1), (2, am_I v2)]) (st := []) (M := (q6.2, z)) (cb := (cvV0 z)) rfl (fun q hq => t_X6_does (by omega) hq) (fun q8 => ?_)
        exact to_rt 3 (r := ((xF q8 4 2 q5.1), q8)) rfl
      · exact to_rt 2 (r := ((-103 : Int32), q6.2)) rfl
    · exact to_rt 2 (r := ((-101 : Int32), q3.2)) rfl
def f_X8_week (n : Nat) (i0 : Nat) (x : am_X) : Option (Int32 × am_X) := (f_X7_passWeek n 0 0 x).bind fun q1 => some ((xF q1 3 2 0), q1)
theorem t_X8_week {n : Nat} {d : Nat} {i0 : Nat} {x z : am_X} {q : Int32 × am_X} (hd : 5 ≤ d) (h : f_X8_week n i0 x = some q) : am_Ev am_PR d 82 [am_R 0 i0] (x, z) (cvI0 z q) := by
  obtain ⟨d, rfl⟩ : ∃ e, d = e + 1 := ⟨d - 1, by omega⟩
  refine to_ev (P := (am_tab pX8_week)) rfl (lv := [(0, am_R 0 i0)]) rfl ?_ q h
  unfold f_X8_week
  refine to_go 4 (pc' := 8) (a' := ([(0, am_R 0 i0)], ([am_R 2 0, am_R 3 0], (x, z)))) rfl ?_
  refine to_cl 1 (lv := [(0, am_R 0 i0)]) (st := []) (M := (x, z)) (cb := (cvV0 z)) rfl (fun q hq => t_X7_passWeek (by omega) hq) (fun q1 => ?_)
  exact to_rt 4 (r := ((xF q1 3 2 0), q1)) rfl
def f_X8_arePair (n : Nat) (i0 : Nat) (v1 : Int32) (v2 : Int32) (x : am_X) : Option (Int32 × am_X) := (f_X7_isHere n 0 v1 x).bind fun q1 => if q1.1 = 0 then (some ((0 : Int32), q1.2)) else ((f_X7_isHere n 0 v2 q1.2).bind fun q3 => if q3.1 = 0 then (some ((0 : Int32), q3.2)) else (if v1 = v2 then (some ((0 : Int32), q3.2)) else (some ((1 : Int32), q3.2))))
theorem t_X8_arePair {n : Nat} {d : Nat} {i0 : Nat} {v1 : Int32} {v2 : Int32} {x z : am_X} {q : Int32 × am_X} (hd : 3 ≤ d) (h : f_X8_arePair n i0 v1 v2 x = some q) : am_Ev am_PR d 101 [am_R 0 i0, am_I v1, am_I v2] (x, z) (cvI0 z q) := by
  obtain ⟨d, rfl⟩ : ∃ e, d = e + 1 := ⟨d - 1, by omega⟩
  refine to_ev (P := (am_tab pX8_arePair)) rfl (lv := [(0, am_R 0 i0), (1, am_I v1), (2, am_I v2)]) rfl ?_ q h
  unfold f_X8_arePair
  refine to_cl 4 (lv := [(0, am_R 0 i0), (1, am_I v1), (2, am_I v2)]) (st := []) (M := (x, z)) (cb := (cvI0 z)) rfl (fun q hq => t_X7_isHere (by omega) hq) (fun q1 => ?_)
  refine to_if 1 (c := q1.1 = 0) (p1 := 31) (p2 := 11) (a' := ([(0, am_R 0 i0), (1, am_I v1), (2, am_I v2)], ([], (q1.2, z)))) rfl (fun c_2 => ?_) (fun c_2 => ?_)
  · exact to_rk 1 32 (c := am_bz (0 : Int32) = true) (r := ((0 : Int32), q1.2)) rfl rfl (by decide)
  · refine to_cl 4 (lv := [(0, am_R 0 i0), (1, am_I v1), (2, am_I v2)]) (st := []) (M := (q1.2, z)) (cb := (cvI0 z)) rfl (fun q hq => t_X7_isHere (by omega) hq) (fun q3 => ?_)
    refine to_if 1 (c := q3.1 = 0) (p1 := 31) (p2 := 22) (a' := ([(0, am_R 0 i0), (1, am_I v1), (2, am_I v2)], ([], (q3.2, z)))) rfl (fun c_4 => ?_) (fun c_4 => ?_)
    · exact to_rk 1 32 (c := am_bz (0 : Int32) = true) (r := ((0 : Int32), q3.2)) rfl rfl (by decide)
    · refine to_if 3 (c := v1 = v2) (p1 := 31) (p2 := 27) (a' := ([(0, am_R 0 i0), (1, am_I v1), (2, am_I v2)], ([], (q3.2, z)))) rfl (fun c_5 => ?_) (fun c_5 => ?_)
      · exact to_rk 1 32 (c := am_bz (0 : Int32) = true) (r := ((0 : Int32), q3.2)) rfl rfl (by decide)
      · exact to_rk 2 32 (c := am_bz (1 : Int32) = true) (r := ((1 : Int32), q3.2)) rfl rfl (by decide)
def f_X8_sell (n : Nat) (i0 : Nat) (v1 : Int32) (v2 : Int32) (v3 : Int32) (x : am_X) : Option (Int32 × am_X) := (f_X8_arePair n i0 v1 v2 x).bind fun q1 => if q1.1 = 0 then (some ((-101 : Int32), q1.2)) else (if v3 < 0 then (some ((-101 : Int32), q1.2)) else (if v3 < (3 : Int32) then ((f_X7_one n 0 v1 q1.2).bind fun q5 => (f_X7_one n 0 v2 q5.2).bind fun q6 => (f_X0_oldestWeek n q5.1 ((1 : Int32) <<< (v3 &&& 31)) q6.2).bind fun q7 => if ¬ q7.1 = (-1 : Int32) then ((f_X0_hasRoom n q6.1 q7.2).bind fun q9 => if ¬ q9.1 = 0 then ((f_X0_dropOldest n q5.1 ((1 : Int32) <<< (v3 &&& 31)) (1 : Int32) q9.2).bind fun q11 => (f_X0_give n q6.1 v3 q7.1 q11).bind fun q12 => some (q7.1, q12)) else (some ((-104 : Int32), q9.2))) else (some ((-103 : Int32), q7.2))) else (some ((-101 : Int32), q1.2))))
theorem t_X8_sell {n : Nat} {d : Nat} {i0 : Nat} {v1 : Int32} {v2 : Int32} {v3 : Int32} {x z : am_X} {q : Int32 × am_X} (hd : 4 ≤ d) (h : f_X8_sell n i0 v1 v2 v3 x = some q) : am_Ev am_PR d 83 [am_R 0 i0, am_I v1, am_I v2, am_I v3] (x, z) (cvI0 z q) := by
  obtain ⟨d, rfl⟩ : ∃ e, d = e + 1 := ⟨d - 1, by omega⟩
  refine to_ev (P := (am_tab pX8_sell)) rfl (lv := [(0, am_R 0 i0), (1, am_I v1), (2, am_I v2), (3, am_I v3)]) rfl ?_ q h
  unfold f_X8_sell
  refine to_cl 4 (lv := [(0, am_R 0 i0), (1, am_I v1), (2, am_I v2), (3, am_I v3)]) (st := []) (M := (x, z)) (cb := (cvI0 z)) rfl (fun q hq => t_X8_arePair (by omega) hq) (fun q1 => ?_)
  refine to_if 1 (c := q1.1 = 0) (p1 := 18) (p2 := 9) (a' := ([(0, am_R 0 i0), (1, am_I v1), (2, am_I v2), (3, am_I v3)], ([], (q1.2, z)))) rfl (fun c_2 => ?_) (fun c_2 => ?_)
  · exact to_rt 2 (r := ((-101 : Int32), q1.2)) rfl
  · refine to_if 2 (c := v3 < 0) (p1 := 18) (p2 := 13) (a' := ([(0, am_R 0 i0), (1, am_I v1), (2, am_I v2), (3, am_I v3)], ([], (q1.2, z)))) rfl (fun c_3 => ?_) (fun c_3 => ?_)
    · exact to_rt 2 (r := ((-101 : Int32), q1.2)) rfl
    · refine to_if 3 (c := v3 < (3 : Int32)) (p1 := 21) (p2 := 18) (a' := ([(0, am_R 0 i0), (1, am_I v1), (2, am_I v2), (3, am_I v3)], ([], (q1.2, z)))) rfl (fun c_4 => ?_) (fun c_4 => ?_)
      · refine to_cl 4 (lv := [(0, am_R 0 i0), (1, am_I v1), (2, am_I v2), (3, am_I v3)]) (st := []) (M := (q1.2, z)) (cb := (cvA0 4 z)) rfl (fun q hq => t_X7_one (by omega) hq) (fun q5 => ?_)
        refine to_go 4 (pc' := 38) (a' := ([(4, am_R 5 q5.1), (0, am_R 0 i0), (1, am_I v1), (2, am_I v2), (3, am_I v3)], ([am_R 3 0], (q5.2, z)))) rfl ?_
        refine to_cl 2 (lv := [(4, am_R 5 q5.1), (0, am_R 0 i0), (1, am_I v1), (2, am_I v2), (3, am_I v3)]) (st := []) (M := (q5.2, z)) (cb := (cvA0 4 z)) rfl (fun q hq => t_X7_one (by omega) hq) (fun q6 => ?_)
        refine to_go 4 (pc' := 50) (a' := ([(5, am_R 5 q6.1), (4, am_R 5 q5.1), (0, am_R 0 i0), (1, am_I v1), (2, am_I v2), (3, am_I v3)], ([am_I (1 : Int32), am_R 5 q5.1], (q6.2, z)))) rfl ?_
        refine to_cl 3 (lv := [(5, am_R 5 q6.1), (4, am_R 5 q5.1), (0, am_R 0 i0), (1, am_I v1), (2, am_I v2), (3, am_I v3)]) (st := []) (M := (q6.2, z)) (cb := (cvI0 z)) rfl (fun q hq => t_X0_oldestWeek (by omega) hq) (fun q7 => ?_)
        refine to_if 4 (c := ¬ q7.1 = (-1 : Int32)) (p1 := 66) (p2 := 63) (a' := ([(6, am_I q7.1), (5, am_R 5 q6.1), (4, am_R 5 q5.1), (0, am_R 0 i0), (1, am_I v1), (2, am_I v2), (3, am_I v3)], ([], (q7.2, z)))) rfl (fun c_8 => ?_) (fun c_8 => ?_)
        · refine to_cl 2 (lv := [(6, am_I q7.1), (5, am_R 5 q6.1), (4, am_R 5 q5.1), (0, am_R 0 i0), (1, am_I v1), (2, am_I v2), (3, am_I v3)]) (st := []) (M := (q7.2, z)) (cb := (cvI0 z)) rfl (fun q hq => t_X0_hasRoom (by omega) hq) (fun q9 => ?_)
          refine to_if 1 (c := ¬ q9.1 = 0) (p1 := 77) (p2 := 74) (a' := ([(6, am_I q7.1), (5, am_R 5 q6.1), (4, am_R 5 q5.1), (0, am_R 0 i0), (1, am_I v1), (2, am_I v2), (3, am_I v3)], ([], (q9.2, z)))) rfl (fun c_10 => ?_) (fun c_10 => ?_)
          · refine to_go 4 (pc' := 82) (a' := ([(6, am_I q7.1), (5, am_R 5 q6.1), (4, am_R 5 q5.1), (0, am_R 0 i0), (1, am_I v1), (2, am_I v2), (3, am_I v3)], ([am_I ((1 : Int32) <<< (v3 &&& 31)), am_R 5 q5.1], (q9.2, z)))) rfl ?_
            refine to_cl 2 (lv := [(6, am_I q7.1), (5, am_R 5 q6.1), (4, am_R 5 q5.1), (0, am_R 0 i0), (1, am_I v1), (2, am_I v2), (3, am_I v3)]) (st := []) (M := (q9.2, z)) (cb := (cvV0 z)) rfl (fun q hq => t_X0_dropOldest (by omega) hq) (fun q11 => ?_)
            refine to_cl 4 (lv := [(6, am_I q7.1), (5, am_R 5 q6.1), (4, am_R 5 q5.1), (0, am_R 0 i0), (1, am_I v1), (2, am_I v2), (3, am_I v3)]) (st := []) (M := (q11, z)) (cb := (cvV0 z)) rfl (fun q hq => t_X0_give (by omega) hq) (fun q12 => ?_)
            exact to_rt 2 (r := (q7.1, q12)) rfl
          · exact to_rt 2 (r := ((-104 : Int32), q9.2)) rfl
        · exact to_rt 2 (r := ((-103 : Int32), q7.2)) rfl
      · exact to_rt 2 (r := ((-101 : Int32), q1.2)) rfl
def f_X8_leave (n : Nat) (i0 : Nat) (v1 : Int32) (v2 : Int32) (x : am_X) : Option (Int32 × am_X) := (f_X8_arePair n i0 v1 v2 x).bind fun q1 => if ¬ q1.1 = 0 then ((f_X7_one n 0 v1 q1.2).bind fun q3 => (f_X7_one n 0 v2 (sF (sF q3.2 4 5 q3.1 (1 : Int32)) 4 3 q3.1 (0 : Int32))).bind fun q4 => (f_X0_moveTo n q3.1 q4.1 q4.2).bind fun q5 => some (q5.1, q5.2)) else (some ((-101 : Int32), q1.2))
theorem t_X8_leave {n : Nat} {d : Nat} {i0 : Nat} {v1 : Int32} {v2 : Int32} {x z : am_X} {q : Int32 × am_X} (hd : 4 ≤ d) (h : f_X8_leave n i0 v1 v2 x = some q) : am_Ev am_PR d 84 [am_R 0 i0, am_I v1, am_I v2] (x, z) (cvI0 z q) := by
  obtain ⟨d, rfl⟩ : ∃ e, d = e + 1 := ⟨d - 1, by omega⟩
  refine to_ev (P := (am_tab pX8_leave)) rfl (lv := [(0, am_R 0 i0), (1, am_I v1), (2, am_I v2)]) rfl ?_ q h
  unfold f_X8_leave
  refine to_cl 4 (lv := [(0, am_R 0 i0), (1, am_I v1), (2, am_I v2)]) (st := []) (M := (x, z)) (cb := (cvI0 z)) rfl (fun q hq => t_X8_arePair (by omega) hq) (fun q1 => ?_)
  refine to_if 1 (c := ¬ q1.1 = 0) (p1 := 12) (p2 := 9) (a' := ([(0, am_R 0 i0), (1, am_I v1), (2, am_I v2)], ([], (q1.2, z)))) rfl (fun c_2 => ?_) (fun c_2 => ?_)
  · refine to_cl 4 (lv := [(0, am_R 0 i0), (1, am_I v1), (2, am_I v2)]) (st := []) (M := (q1.2, z)) (cb := (cvA0 4 z)) rfl (fun q hq => t_X7_one (by omega) hq) (fun q3 => ?_)
    refine to_gk 3 23 (c := am_bz (1 : Int32) = true) (pc' := 26) (a' := ([(3, am_R 4 q3.1), (0, am_R 0 i0), (1, am_I v1), (2, am_I v2)], ([], ((sF q3.2 4 5 q3.1 (1 : Int32)), z)))) rfl rfl (by decide) ?_
    refine to_go 4 (pc' := 32) (a' := ([(3, am_R 4 q3.1), (0, am_R 0 i0), (1, am_I v1), (2, am_I v2)], ([am_R 4 q3.1], ((sF (sF q3.2 4 5 q3.1 (1 : Int32)) 4 3 q3.1 (0 : Int32)), z)))) rfl ?_
    refine to_go 4 (pc' := 40) (a' := ([(3, am_R 4 q3.1), (0, am_R 0 i0), (1, am_I v1), (2, am_I v2)], ([am_I v2, am_R 3 0, am_R 5 q3.1], ((sF (sF q3.2 4 5 q3.1 (1 : Int32)) 4 3 q3.1 (0 : Int32)), z)))) rfl ?_
    refine to_cl 1 (lv := [(3, am_R 4 q3.1), (0, am_R 0 i0), (1, am_I v1), (2, am_I v2)]) (st := [am_R 5 q3.1]) (M := ((sF (sF q3.2 4 5 q3.1 (1 : Int32)) 4 3 q3.1 (0 : Int32)), z)) (cb := (cvA0 4 z)) rfl (fun q hq => t_X7_one (by omega) hq) (fun q4 => ?_)
    refine to_cl 2 (lv := [(3, am_R 4 q3.1), (0, am_R 0 i0), (1, am_I v1), (2, am_I v2)]) (st := []) (M := (q4.2, z)) (cb := (cvI0 z)) rfl (fun q hq => t_X0_moveTo (by omega) hq) (fun q5 => ?_)
    exact to_rt 1 (r := (q5.1, q5.2)) rfl
  · exact to_rt 2 (r := ((-101 : Int32), q1.2)) rfl
def f_X8_amnesty (n : Nat) (i0 : Nat) (x : am_X) : Option (Int32 × am_X) := (f_X7_forgive n 0 x).bind fun q1 => some (q1.1, q1.2)
theorem t_X8_amnesty {n : Nat} {d : Nat} {i0 : Nat} {x z : am_X} {q : Int32 × am_X} (hd : 4 ≤ d) (h : f_X8_amnesty n i0 x = some q) : am_Ev am_PR d 85 [am_R 0 i0] (x, z) (cvI0 z q) := by
  obtain ⟨d, rfl⟩ : ∃ e, d = e + 1 := ⟨d - 1, by omega⟩
  refine to_ev (P := (am_tab pX8_amnesty)) rfl (lv := [(0, am_R 0 i0)]) rfl ?_ q h
  unfold f_X8_amnesty
  refine to_cl 3 (lv := [(0, am_R 0 i0)]) (st := []) (M := (x, z)) (cb := (cvI0 z)) rfl (fun q hq => t_X7_forgive (by omega) hq) (fun q1 => ?_)
  exact to_rt 1 (r := (q1.1, q1.2)) rfl
def f_X8_gain (n : Nat) (i0 : Nat) (v1 : Int32) (v2 : Int32) (v3 : Int32) (x : am_X) : Option (Int32 × am_X) := (f_X7_isHere n 0 v1 x).bind fun q1 => if ¬ q1.1 = 0 then (if v2 < 0 then (some ((-102 : Int32), q1.2)) else (if (6 : Int32) < v2 then (some ((-102 : Int32), q1.2)) else (if v3 < 0 then (some ((-102 : Int32), q1.2)) else (if v3 ≤ (1 : Int32) then (if (xF q1.2 0 10 i0) < (60 : Int32) then ((f_X7_one n 0 v1 (sF q1.2 0 10 i0 ((xF q1.2 0 10 i0) + (1 : Int32)))).bind fun q8 => (f_X1_start n 0 q8.1 0 (xF q8.2 3 2 0) v2 q8.2).bind fun q9 => if ¬ v3 = 0 then (some ((xF q9 6 5 0), q9)) else (some ((xF q9 6 4 0), q9))) else (some ((-103 : Int32), q1.2))) else (some ((-102 : Int32), q1.2)))))) else (some ((-101 : Int32), q1.2))
theorem t_X8_gain {n : Nat} {d : Nat} {i0 : Nat} {v1 : Int32} {v2 : Int32} {v3 : Int32} {x z : am_X} {q : Int32 × am_X} (hd : 15 ≤ d) (h : f_X8_gain n i0 v1 v2 v3 x = some q) : am_Ev am_PR d 86 [am_R 0 i0, am_I v1, am_I v2, am_I v3] (x, z) (cvI0 z q) := by
  obtain ⟨d, rfl⟩ : ∃ e, d = e + 1 := ⟨d - 1, by omega⟩
  refine to_ev (P := (am_tab pX8_gain)) rfl (lv := [(0, am_R 0 i0), (1, am_I v1), (2, am_I v2), (3, am_I v3)]) rfl ?_ q h
  unfold f_X8_gain
  refine to_cl 4 (lv := [(0, am_R 0 i0), (1, am_I v1), (2, am_I v2), (3, am_I v3)]) (st := []) (M := (x, z)) (cb := (cvI0 z)) rfl (fun q hq => t_X7_isHere (by omega) hq) (fun q1 => ?_)
  refine to_if 1 (c := ¬ q1.1 = 0) (p1 := 14) (p2 := 11) (a' := ([(0, am_R 0 i0), (1, am_I v1), (2, am_I v2), (3, am_I v3)], ([], (q1.2, z)))) rfl (fun c_2 => ?_) (fun c_2 => ?_)
  · refine to_if 2 (c := v2 < 0) (p1 := 33) (p2 := 18) (a' := ([(0, am_R 0 i0), (1, am_I v1), (2, am_I v2), (3, am_I v3)], ([], (q1.2, z)))) rfl (fun c_3 => ?_) (fun c_3 => ?_)
    · exact to_rt 2 (r := ((-102 : Int32), q1.2)) rfl
    · refine to_if 3 (c := (6 : Int32) < v2) (p1 := 33) (p2 := 24) (a' := ([(0, am_R 0 i0), (1, am_I v1), (2, am_I v2), (3, am_I v3)], ([], (q1.2, z)))) rfl (fun c_4 => ?_) (fun c_4 => ?_)
      · exact to_rt 2 (r := ((-102 : Int32), q1.2)) rfl
      · refine to_if 2 (c := v3 < 0) (p1 := 33) (p2 := 28) (a' := ([(0, am_R 0 i0), (1, am_I v1), (2, am_I v2), (3, am_I v3)], ([], (q1.2, z)))) rfl (fun c_5 => ?_) (fun c_5 => ?_)
        · exact to_rt 2 (r := ((-102 : Int32), q1.2)) rfl
        · refine to_if 3 (c := v3 ≤ (1 : Int32)) (p1 := 36) (p2 := 33) (a' := ([(0, am_R 0 i0), (1, am_I v1), (2, am_I v2), (3, am_I v3)], ([], (q1.2, z)))) rfl (fun c_6 => ?_) (fun c_6 => ?_)
          · refine to_if 4 (c := (xF q1.2 0 10 i0) < (60 : Int32)) (p1 := 48) (p2 := 45) (a' := ([(0, am_R 0 i0), (1, am_I v1), (2, am_I v2), (3, am_I v3)], ([], (q1.2, z)))) rfl (fun c_7 => ?_) (fun c_7 => ?_)
            · refine to_go 4 (pc' := 54) (a' := ([(0, am_R 0 i0), (1, am_I v1), (2, am_I v2), (3, am_I v3)], ([am_I (1 : Int32), am_I (xF q1.2 0 10 i0), am_R 0 i0], (q1.2, z)))) rfl ?_
              refine to_go 4 (pc' := 62) (a' := ([(0, am_R 0 i0), (1, am_I v1), (2, am_I v2), (3, am_I v3)], ([am_R 6 0], ((sF q1.2 0 10 i0 ((xF q1.2 0 10 i0) + (1 : Int32))), z)))) rfl ?_
              refine to_cl 4 (lv := [(0, am_R 0 i0), (1, am_I v1), (2, am_I v2), (3, am_I v3)]) (st := [am_R 6 0]) (M := ((sF q1.2 0 10 i0 ((xF q1.2 0 10 i0) + (1 : Int32))), z)) (cb := (cvA0 4 z)) rfl (fun q hq => t_X7_one (by omega) hq) (fun q8 => ?_)
              refine to_go 4 (pc' := 78) (a' := ([(0, am_R 0 i0), (1, am_I v1), (2, am_I v2), (3, am_I v3)], ([am_R 3 0, am_R 2 0, am_R 4 q8.1, am_R 6 0], (q8.2, z)))) rfl ?_
              refine to_cl 3 (lv := [(0, am_R 0 i0), (1, am_I v1), (2, am_I v2), (3, am_I v3)]) (st := []) (M := (q8.2, z)) (cb := (cvV0 z)) rfl (fun q hq => t_X1_start (by omega) hq) (fun q9 => ?_)
              refine to_if 2 (c := ¬ v3 = 0) (p1 := 99) (p2 := 89) (a' := ([(0, am_R 0 i0), (1, am_I v1), (2, am_I v2), (3, am_I v3)], ([], (q9, z)))) rfl (fun c_10 => ?_) (fun c_10 => ?_)
              · exact to_rt 4 (r := ((xF q9 6 5 0), q9)) rfl
              · refine to_go 4 (pc' := 106) (a' := ([(0, am_R 0 i0), (1, am_I v1), (2, am_I v2), (3, am_I v3)], ([am_I (xF q9 6 4 0)], (q9, z)))) rfl ?_
                exact to_rt 1 (r := ((xF q9 6 4 0), q9)) rfl
            · exact to_rt 2 (r := ((-103 : Int32), q1.2)) rfl
          · exact to_rt 2 (r := ((-102 : Int32), q1.2)) rfl
  · exact to_rt 2 (r := ((-101 : Int32), q1.2)) rfl
