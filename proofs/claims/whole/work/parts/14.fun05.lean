def b_X9_readLaw_69 (n : Nat) (h11 : Nat → Int32 → Int32 → Int32 → am_X → Option (am_X)) (i0 : Nat) (v1 : Int32) (v3 : Int32) (s0 : Int32) (s1 : Int32) (x : am_X) : Option (am_X) := h11 i0 v1 (s0 + s1) v3 x
theorem tb_X9_readLaw_69 {n : Nat} {h11 : Nat → Int32 → Int32 → Int32 → am_X → Option (am_X)} {d : Nat} {z : am_X} (hd : 3 ≤ d) (hh11 : ∀ (i0 : Nat) (v1 : Int32) (v2 : Int32) (v3 : Int32) (x : am_X), am_To d (am_tab pX9_readLaw) 11 ([(0, am_R 32 i0), (1, am_I v1), (2, am_I v2), (3, am_I v3)], ([], (z, x))) (cvV1 z) (h11 i0 v1 v2 v3 x)) (i0 : Nat) (v1 : Int32) (v3 : Int32) (s0 : Int32) (s1 : Int32) (x : am_X) : am_To d (am_tab pX9_readLaw) 69 ([(0, am_R 32 i0), (1, am_I v1), (3, am_I v3)], ([am_I s1, am_I s0], (z, x))) (cvV1 z) (b_X9_readLaw_69 n h11 i0 v1 v3 s0 s1 x) := by
  unfold b_X9_readLaw_69
  refine to_go 3 (pc' := 11) (a' := ([(2, am_I (s0 + s1)), (0, am_R 32 i0), (1, am_I v1), (3, am_I v3)], ([], (z, x)))) rfl ?_
  refine to_fg [1, 2, 0, 3] (lv' := [(0, am_R 32 i0), (1, am_I v1), (2, am_I (s0 + s1)), (3, am_I v3)]) rfl ?_
  exact hh11 i0 v1 (s0 + s1) v3 x
def b_X9_readLaw_58 (n : Nat) (h11 : Nat → Int32 → Int32 → Int32 → am_X → Option (am_X)) (i0 : Nat) (v2 : Int32) (v3 : Int32) (s0 : Int32) (x : am_X) : Option (am_X) := if v3 = 0 then (b_X9_readLaw_69 n h11 i0 s0 v3 v2 (0 : Int32) x) else (b_X9_readLaw_69 n h11 i0 s0 v3 v2 (1 : Int32) x)
theorem tb_X9_readLaw_58 {n : Nat} {h11 : Nat → Int32 → Int32 → Int32 → am_X → Option (am_X)} {d : Nat} {z : am_X} (hd : 3 ≤ d) (hh11 : ∀ (i0 : Nat) (v1 : Int32) (v2 : Int32) (v3 : Int32) (x : am_X), am_To d (am_tab pX9_readLaw) 11 ([(0, am_R 32 i0), (1, am_I v1), (2, am_I v2), (3, am_I v3)], ([], (z, x))) (cvV1 z) (h11 i0 v1 v2 v3 x)) (i0 : Nat) (v2 : Int32) (v3 : Int32) (s0 : Int32) (x : am_X) : am_To d (am_tab pX9_readLaw) 58 ([(0, am_R 32 i0), (2, am_I v2), (3, am_I v3)], ([am_I s0], (z, x))) (cvV1 z) (b_X9_readLaw_58 n h11 i0 v2 v3 s0 x) := by
  unfold b_X9_readLaw_58
  refine to_if 4 (c := v3 = 0) (p1 := 68) (p2 := 64) (a' := ([(1, am_I s0), (0, am_R 32 i0), (2, am_I v2), (3, am_I v3)], ([am_I v2], (z, x)))) rfl (fun c_1 => ?_) (fun c_1 => ?_)
  · refine to_go 1 (pc' := 69) (a' := ([(1, am_I s0), (0, am_R 32 i0), (2, am_I v2), (3, am_I v3)], ([am_I (0 : Int32), am_I v2], (z, x)))) rfl ?_
    refine to_fg [1, 0, 3] (lv' := [(0, am_R 32 i0), (1, am_I s0), (3, am_I v3)]) rfl ?_
    exact tb_X9_readLaw_69 (by omega) hh11  i0 s0 v3 v2 (0 : Int32) x
  · refine to_go 2 (pc' := 69) (a' := ([(1, am_I s0), (0, am_R 32 i0), (2, am_I v2), (3, am_I v3)], ([am_I (1 : Int32), am_I v2], (z, x)))) rfl ?_
    refine to_fg [1, 0, 3] (lv' := [(0, am_R 32 i0), (1, am_I s0), (3, am_I v3)]) rfl ?_
    exact tb_X9_readLaw_69 (by omega) hh11  i0 s0 v3 v2 (1 : Int32) x
def b_X9_readLaw_47 (n : Nat) (h11 : Nat → Int32 → Int32 → Int32 → am_X → Option (am_X)) (i0 : Nat) (v1 : Int32) (v2 : Int32) (v4 : Int32) (s0 : Int32) (x : am_X) : Option (am_X) := if s0 = 0 then (b_X9_readLaw_58 n h11 i0 v2 s0 v1 x) else (b_X9_readLaw_58 n h11 i0 v2 s0 v4 x)
theorem tb_X9_readLaw_47 {n : Nat} {h11 : Nat → Int32 → Int32 → Int32 → am_X → Option (am_X)} {d : Nat} {z : am_X} (hd : 3 ≤ d) (hh11 : ∀ (i0 : Nat) (v1 : Int32) (v2 : Int32) (v3 : Int32) (x : am_X), am_To d (am_tab pX9_readLaw) 11 ([(0, am_R 32 i0), (1, am_I v1), (2, am_I v2), (3, am_I v3)], ([], (z, x))) (cvV1 z) (h11 i0 v1 v2 v3 x)) (i0 : Nat) (v1 : Int32) (v2 : Int32) (v4 : Int32) (s0 : Int32) (x : am_X) : am_To d (am_tab pX9_readLaw) 47 ([(0, am_R 32 i0), (1, am_I v1), (2, am_I v2), (4, am_I v4)], ([am_I s0], (z, x))) (cvV1 z) (b_X9_readLaw_47 n h11 i0 v1 v2 v4 s0 x) := by
  unfold b_X9_readLaw_47
  refine to_if 3 (c := s0 = 0) (p1 := 57) (p2 := 52) (a' := ([(3, am_I s0), (0, am_R 32 i0), (1, am_I v1), (2, am_I v2), (4, am_I v4)], ([], (z, x)))) rfl (fun c_1 => ?_) (fun c_1 => ?_)
  · refine to_go 1 (pc' := 58) (a' := ([(3, am_I s0), (0, am_R 32 i0), (1, am_I v1), (2, am_I v2), (4, am_I v4)], ([am_I v1], (z, x)))) rfl ?_
    refine to_fg [1, 3, 0] (lv' := [(0, am_R 32 i0), (2, am_I v2), (3, am_I s0)]) rfl ?_
    exact tb_X9_readLaw_58 (by omega) hh11  i0 v2 s0 v1 x
  · refine to_go 2 (pc' := 58) (a' := ([(3, am_I s0), (0, am_R 32 i0), (1, am_I v1), (2, am_I v2), (4, am_I v4)], ([am_I v4], (z, x)))) rfl ?_
    refine to_fg [1, 3, 0] (lv' := [(0, am_R 32 i0), (2, am_I v2), (3, am_I s0)]) rfl ?_
    exact tb_X9_readLaw_58 (by omega) hh11  i0 v2 s0 v4 x
def b_X9_readLaw_74 (n : Nat) (i0 : Nat) (v1 : Int32) (v2 : Int32) (x : am_X) : Option (am_X) := if ¬ v2 = (xF x 32 16 i0) then (some (sF (sF x 32 18 i0 v2) 32 19 i0 (0 : Int32))) else (if ¬ v1 = (6 : Int32) then (some (sF (sF x 32 18 i0 v2) 32 19 i0 (0 : Int32))) else (some (sF (sF x 32 18 i0 v2) 32 19 i0 (1 : Int32))))
theorem tb_X9_readLaw_74 {n : Nat} {d : Nat} {z : am_X} (hd : 3 ≤ d) (i0 : Nat) (v1 : Int32) (v2 : Int32) (x : am_X) : am_To d (am_tab pX9_readLaw) 74 ([(0, am_R 32 i0), (1, am_I v1), (2, am_I v2)], ([], (z, x))) (cvV1 z) (b_X9_readLaw_74 n i0 v1 v2 x) := by
  unfold b_X9_readLaw_74
  refine to_go 4 (pc' := 80) (a' := ([(0, am_R 32 i0), (1, am_I v1), (2, am_I v2)], ([am_R 32 i0], (z, (sF x 32 18 i0 v2))))) rfl ?_
  refine to_if 4 (c := ¬ v2 = (xF x 32 16 i0)) (p1 := 98) (p2 := 88) (a' := ([(0, am_R 32 i0), (1, am_I v1), (2, am_I v2)], ([am_R 32 i0], (z, (sF x 32 18 i0 v2))))) rfl (fun c_1 => ?_) (fun c_1 => ?_)
  · refine to_gk 1 99 (c := am_bz (0 : Int32) = true) (pc' := 102) (a' := ([(0, am_R 32 i0), (1, am_I v1), (2, am_I v2)], ([], (z, (sF (sF x 32 18 i0 v2) 32 19 i0 (0 : Int32)))))) rfl rfl (by decide) ?_
    exact to_rt 1 rfl
  · refine to_if 3 (c := ¬ v1 = (6 : Int32)) (p1 := 98) (p2 := 94) (a' := ([(0, am_R 32 i0), (1, am_I v1), (2, am_I v2)], ([am_R 32 i0], (z, (sF x 32 18 i0 v2))))) rfl (fun c_2 => ?_) (fun c_2 => ?_)
    · refine to_gk 1 99 (c := am_bz (0 : Int32) = true) (pc' := 102) (a' := ([(0, am_R 32 i0), (1, am_I v1), (2, am_I v2)], ([], (z, (sF (sF x 32 18 i0 v2) 32 19 i0 (0 : Int32)))))) rfl rfl (by decide) ?_
      exact to_rt 1 rfl
    · refine to_gk 2 99 (c := am_bz (1 : Int32) = true) (pc' := 102) (a' := ([(0, am_R 32 i0), (1, am_I v1), (2, am_I v2)], ([], (z, (sF (sF x 32 18 i0 v2) 32 19 i0 (1 : Int32)))))) rfl rfl (by decide) ?_
      exact to_rt 1 rfl
def b_X9_readLaw_11 (n : Nat) : Nat → Nat → Int32 → Int32 → Int32 → am_X → Option (am_X)
  | 0, _, _, _, _, _ => none
  | k + 1, i0, v1, v2, v3, x => if (xF x 32 16 i0) ≤ v2 then (b_X9_readLaw_74 n i0 v1 v2 x) else (if v3 = 0 then (b_X9_readLaw_74 n i0 v1 v2 x) else (if am_inB v2 30 = true then ((f_X9_nextState n i0 v1 (xA x 57 0 (Int32.toNatClampNeg v2)) x).bind fun q4 => if q4.1 = (-1 : Int32) then (b_X9_readLaw_47 n (b_X9_readLaw_11 n k) i0 v1 v2 q4.1 (0 : Int32) q4.2) else (b_X9_readLaw_47 n (b_X9_readLaw_11 n k) i0 v1 v2 q4.1 (1 : Int32) q4.2)) else none))
theorem tb_X9_readLaw_11 {n : Nat} {d : Nat} {z : am_X} (hd : 3 ≤ d) : ∀ (k : Nat) (i0 : Nat) (v1 : Int32) (v2 : Int32) (v3 : Int32) (x : am_X), am_To d (am_tab pX9_readLaw) 11 ([(0, am_R 32 i0), (1, am_I v1), (2, am_I v2), (3, am_I v3)], ([], (z, x))) (cvV1 z) (b_X9_readLaw_11 n k i0 v1 v2 v3 x) := by
  intro k
  induction k with
  | zero =>
    intro i0 v1 v2 v3 x
    exact to_0
  | succ k ih =>
    intro i0 v1 v2 v3 x
    rw [b_X9_readLaw_11]
    refine to_if 4 (c := (xF x 32 16 i0) ≤ v2) (p1 := 74) (p2 := 19) (a' := ([(0, am_R 32 i0), (1, am_I v1), (2, am_I v2), (3, am_I v3)], ([], (z, x)))) rfl (fun c_1 => ?_) (fun c_1 => ?_)
    · refine to_fg [0, 1, 2] (lv' := [(0, am_R 32 i0), (1, am_I v1), (2, am_I v2)]) rfl ?_
      exact tb_X9_readLaw_74 (by omega)  i0 v1 v2 x
    · refine to_if 2 (c := v3 = 0) (p1 := 74) (p2 := 23) (a' := ([(0, am_R 32 i0), (1, am_I v1), (2, am_I v2), (3, am_I v3)], ([], (z, x)))) rfl (fun c_2 => ?_) (fun c_2 => ?_)
      · refine to_fg [0, 1, 2] (lv' := [(0, am_R 32 i0), (1, am_I v1), (2, am_I v2)]) rfl ?_
        exact tb_X9_readLaw_74 (by omega)  i0 v1 v2 x
      · refine to_go 4 (pc' := 29) (a' := ([(0, am_R 32 i0), (1, am_I v1), (2, am_I v2), (3, am_I v3)], ([am_R 57 0, am_I v1, am_R 32 i0], (z, x)))) rfl ?_
        refine to_gd 1 30 (c := am_inB v2 30 = true) (pc' := 31) (a' := ([(0, am_R 32 i0), (1, am_I v1), (2, am_I v2), (3, am_I v3)], ([am_I (xA x 57 0 (Int32.toNatClampNeg v2)), am_I v1, am_R 32 i0], (z, x)))) rfl rfl (fun c_3 => ?_)
        refine to_cl 1 (lv := [(0, am_R 32 i0), (1, am_I v1), (2, am_I v2), (3, am_I v3)]) (st := []) (M := (z, x)) (cb := (cvI1 z)) rfl (fun q hq => t_X9_nextState (by omega) hq) (fun q4 => ?_)
        refine to_if 4 (c := q4.1 = (-1 : Int32)) (p1 := 46) (p2 := 42) (a' := ([(4, am_I q4.1), (0, am_R 32 i0), (1, am_I v1), (2, am_I v2), (3, am_I v3)], ([], (z, q4.2)))) rfl (fun c_5 => ?_) (fun c_5 => ?_)
        · refine to_go 1 (pc' := 47) (a' := ([(4, am_I q4.1), (0, am_R 32 i0), (1, am_I v1), (2, am_I v2), (3, am_I v3)], ([am_I (0 : Int32)], (z, q4.2)))) rfl ?_
          refine to_fg [1, 2, 3, 0] (lv' := [(0, am_R 32 i0), (1, am_I v1), (2, am_I v2), (4, am_I q4.1)]) rfl ?_
          exact tb_X9_readLaw_47 (by omega) ih  i0 v1 v2 q4.1 (0 : Int32) q4.2
        · refine to_go 2 (pc' := 47) (a' := ([(4, am_I q4.1), (0, am_R 32 i0), (1, am_I v1), (2, am_I v2), (3, am_I v3)], ([am_I (1 : Int32)], (z, q4.2)))) rfl ?_
          refine to_fg [1, 2, 3, 0] (lv' := [(0, am_R 32 i0), (1, am_I v1), (2, am_I v2), (4, am_I q4.1)]) rfl ?_
          exact tb_X9_readLaw_47 (by omega) ih  i0 v1 v2 q4.1 (1 : Int32) q4.2
def f_X9_readLaw (n : Nat) (i0 : Nat) (x : am_X) : Option (am_X) := b_X9_readLaw_11 n n i0 (0 : Int32) (0 : Int32) (1 : Int32) (sF x 32 20 i0 (0 : Int32))
theorem t_X9_readLaw {n : Nat} {d : Nat} {i0 : Nat} {x z : am_X} {q : am_X} (hd : 4 ≤ d) (h : f_X9_readLaw n i0 x = some q) : am_Ev am_PR d 114 [am_R 32 i0] (z, x) (cvV1 z q) := by
  obtain ⟨d, rfl⟩ : ∃ e, d = e + 1 := ⟨d - 1, by omega⟩
  refine to_ev (P := (am_tab pX9_readLaw)) rfl (lv := [(0, am_R 32 i0)]) rfl ?_ q h
  unfold f_X9_readLaw
  refine to_go 4 (pc' := 6) (a' := ([(0, am_R 32 i0)], ([am_I (0 : Int32)], (z, (sF x 32 20 i0 (0 : Int32)))))) rfl ?_
  refine to_go 4 (pc' := 10) (a' := ([(2, am_I (0 : Int32)), (1, am_I (0 : Int32)), (0, am_R 32 i0)], ([am_I (1 : Int32)], (z, (sF x 32 20 i0 (0 : Int32)))))) rfl ?_
  refine to_go 1 (pc' := 11) (a' := ([(3, am_I (1 : Int32)), (2, am_I (0 : Int32)), (1, am_I (0 : Int32)), (0, am_R 32 i0)], ([], (z, (sF x 32 20 i0 (0 : Int32)))))) rfl ?_
  refine to_fg [3, 2, 1, 0] (lv' := [(0, am_R 32 i0), (1, am_I (0 : Int32)), (2, am_I (0 : Int32)), (3, am_I (1 : Int32))]) rfl ?_
  exact tb_X9_readLaw_11 (by omega)  n i0 (0 : Int32) (0 : Int32) (1 : Int32) (sF x 32 20 i0 (0 : Int32))
def f_X9_fault (n : Nat) (i0 : Nat) (x : am_X) : Option (Int32 × am_X) := (f_X9_readLaw n i0 x).bind fun q1 => some ((xF q1 32 18 i0), q1)
theorem t_X9_fault {n : Nat} {d : Nat} {i0 : Nat} {x z : am_X} {q : Int32 × am_X} (hd : 5 ≤ d) (h : f_X9_fault n i0 x = some q) : am_Ev am_PR d 115 [am_R 32 i0] (z, x) (cvI1 z q) := by
  obtain ⟨d, rfl⟩ : ∃ e, d = e + 1 := ⟨d - 1, by omega⟩
  refine to_ev (P := (am_tab pX9_fault)) rfl (lv := [(0, am_R 32 i0)]) rfl ?_ q h
  unfold f_X9_fault
  refine to_cl 2 (lv := [(0, am_R 32 i0)]) (st := []) (M := (z, x)) (cb := (cvV1 z)) rfl (fun q hq => t_X9_readLaw (by omega) hq) (fun q1 => ?_)
  exact to_rt 3 (r := ((xF q1 32 18 i0), q1)) rfl
def b_X9_lapseOf_59 (n : Nat) (h5 : Nat → Int32 → Int32 → Int32 → Int32 → am_X → Option (am_X)) (i0 : Nat) (v1 : Int32) (v2 : Int32) (v3 : Int32) (v4 : Int32) (x : am_X) : Option (am_X) := h5 i0 v1 v2 v3 (v4 + (1 : Int32)) x
theorem tb_X9_lapseOf_59 {n : Nat} {h5 : Nat → Int32 → Int32 → Int32 → Int32 → am_X → Option (am_X)} {d : Nat} {z : am_X} (hd : 0 ≤ d) (hh5 : ∀ (i0 : Nat) (v1 : Int32) (v2 : Int32) (v3 : Int32) (v4 : Int32) (x : am_X), am_To d (am_tab pX9_lapseOf) 5 ([(0, am_R 32 i0), (1, am_I v1), (2, am_I v2), (3, am_I v3), (4, am_I v4)], ([], (z, x))) (cvV1 z) (h5 i0 v1 v2 v3 v4 x)) (i0 : Nat) (v1 : Int32) (v2 : Int32) (v3 : Int32) (v4 : Int32) (x : am_X) : am_To d (am_tab pX9_lapseOf) 59 ([(0, am_R 32 i0), (1, am_I v1), (2, am_I v2), (3, am_I v3), (4, am_I v4)], ([], (z, x))) (cvV1 z) (b_X9_lapseOf_59 n h5 i0 v1 v2 v3 v4 x) := by
  unfold b_X9_lapseOf_59
  refine to_go 2 (pc' := 5) (a' := ([(4, am_I (v4 + (1 : Int32))), (0, am_R 32 i0), (1, am_I v1), (2, am_I v2), (3, am_I v3)], ([], (z, x)))) rfl ?_
  refine to_fg [1, 2, 3, 4, 0] (lv' := [(0, am_R 32 i0), (1, am_I v1), (2, am_I v2), (3, am_I v3), (4, am_I (v4 + (1 : Int32)))]) rfl ?_
  exact hh5 i0 v1 v2 v3 (v4 + (1 : Int32)) x
def b_X9_lapseOf_5 (n : Nat) : Nat → Nat → Int32 → Int32 → Int32 → Int32 → am_X → Option (am_X)
  | 0, _, _, _, _, _, _ => none
  | k + 1, i0, v1, v2, v3, v4, x => if am_inB v1 5 = true then (if (xA x 53 0 (Int32.toNatClampNeg v1)) ≤ v4 then (if am_inB v1 5 = true then (some (sA x 53 0 (Int32.toNatClampNeg v1) v3)) else none) else (if am_inB (((12 : Int32) * v1) + v4) 60 = true then (if (xF x 32 2 i0) < (v2 - ((xA x 54 0 (Int32.toNatClampNeg (((12 : Int32) * v1) + v4))) / (4 : Int32))) then (b_X9_lapseOf_59 n (b_X9_lapseOf_5 n k) i0 v1 v2 v3 v4 x) else (if am_inB (((12 : Int32) * v1) + v3) 60 = true then (b_X9_lapseOf_59 n (b_X9_lapseOf_5 n k) i0 v1 v2 (v3 + (1 : Int32)) v4 (sA x 54 0 (Int32.toNatClampNeg (((12 : Int32) * v1) + v3)) (xA x 54 0 (Int32.toNatClampNeg (((12 : Int32) * v1) + v4))))) else none)) else none)) else none
theorem tb_X9_lapseOf_5 {n : Nat} {d : Nat} {z : am_X} (hd : 0 ≤ d) : ∀ (k : Nat) (i0 : Nat) (v1 : Int32) (v2 : Int32) (v3 : Int32) (v4 : Int32) (x : am_X), am_To d (am_tab pX9_lapseOf) 5 ([(0, am_R 32 i0), (1, am_I v1), (2, am_I v2), (3, am_I v3), (4, am_I v4)], ([], (z, x))) (cvV1 z) (b_X9_lapseOf_5 n k i0 v1 v2 v3 v4 x) := by
  intro k
  induction k with
  | zero =>
    intro i0 v1 v2 v3 v4 x
    exact to_0
  | succ k ih =>
    intro i0 v1 v2 v3 v4 x
    rw [b_X9_lapseOf_5]
    refine to_go 4 (pc' := 12) (a' := ([(0, am_R 32 i0), (1, am_I v1), (2, am_I v2), (3, am_I v3), (4, am_I v4)], ([am_I v1, am_R 53 0, am_I v4], (z, x)))) rfl ?_
    refine to_gd 0 12 (c := am_inB v1 5 = true) (pc' := 13) (a' := ([(0, am_R 32 i0), (1, am_I v1), (2, am_I v2), (3, am_I v3), (4, am_I v4)], ([am_I (xA x 53 0 (Int32.toNatClampNeg v1)), am_I v4], (z, x)))) rfl rfl (fun c_1 => ?_)
    refine to_if 1 (c := (xA x 53 0 (Int32.toNatClampNeg v1)) ≤ v4) (p1 := 65) (p2 := 16) (a' := ([(0, am_R 32 i0), (1, am_I v1), (2, am_I v2), (3, am_I v3), (4, am_I v4)], ([], (z, x)))) rfl (fun c_2 => ?_) (fun c_2 => ?_)
    · refine to_go 4 (pc' := 71) (a' := ([(0, am_R 32 i0), (1, am_I v1), (2, am_I v2), (3, am_I v3), (4, am_I v4)], ([am_I v3, am_I v1, am_R 53 0], (z, x)))) rfl ?_
      refine to_gd 0 71 (c := am_inB v1 5 = true) (pc' := 72) (a' := ([(0, am_R 32 i0), (1, am_I v1), (2, am_I v2), (3, am_I v3), (4, am_I v4)], ([], (z, (sA x 53 0 (Int32.toNatClampNeg v1) v3))))) rfl rfl (fun c_3 => ?_)
      exact to_rt 1 rfl
    · refine to_go 4 (pc' := 23) (a' := ([(0, am_R 32 i0), (1, am_I v1), (2, am_I v2), (3, am_I v3), (4, am_I v4)], ([am_I v1, am_I (12 : Int32), am_R 54 0], (z, x)))) rfl ?_
      refine to_gd 3 27 (c := am_inB (((12 : Int32) * v1) + v4) 60 = true) (pc' := 28) (a' := ([(0, am_R 32 i0), (1, am_I v1), (2, am_I v2), (3, am_I v3), (4, am_I v4)], ([am_I (xA x 54 0 (Int32.toNatClampNeg (((12 : Int32) * v1) + v4)))], (z, x)))) rfl rfl (fun c_4 => ?_)
      refine to_go 4 (pc' := 34) (a' := ([(5, am_I (xA x 54 0 (Int32.toNatClampNeg (((12 : Int32) * v1) + v4)))), (0, am_R 32 i0), (1, am_I v1), (2, am_I v2), (3, am_I v3), (4, am_I v4)], ([am_I (4 : Int32), am_I (xA x 54 0 (Int32.toNatClampNeg (((12 : Int32) * v1) + v4))), am_I v2], (z, x)))) rfl ?_
      refine to_gk 0 34 (c := ¬ (4 : Int32) = 0) (pc' := 35) (a' := ([(5, am_I (xA x 54 0 (Int32.toNatClampNeg (((12 : Int32) * v1) + v4)))), (0, am_R 32 i0), (1, am_I v1), (2, am_I v2), (3, am_I v3), (4, am_I v4)], ([am_I ((xA x 54 0 (Int32.toNatClampNeg (((12 : Int32) * v1) + v4))) / (4 : Int32)), am_I v2], (z, x)))) rfl rfl (by decide) ?_
      refine to_if 4 (c := (xF x 32 2 i0) < (v2 - ((xA x 54 0 (Int32.toNatClampNeg (((12 : Int32) * v1) + v4))) / (4 : Int32)))) (p1 := 59) (p2 := 43) (a' := ([(5, am_I (xA x 54 0 (Int32.toNatClampNeg (((12 : Int32) * v1) + v4)))), (0, am_R 32 i0), (1, am_I v1), (2, am_I v2), (3, am_I v3), (4, am_I v4)], ([], (z, x)))) rfl (fun c_5 => ?_) (fun c_5 => ?_)
      · refine to_fg [1, 2, 3, 4, 5] (lv' := [(0, am_R 32 i0), (1, am_I v1), (2, am_I v2), (3, am_I v3), (4, am_I v4)]) rfl ?_
        exact tb_X9_lapseOf_59 (by omega) ih  i0 v1 v2 v3 v4 x
      · refine to_go 4 (pc' := 50) (a' := ([(5, am_I (xA x 54 0 (Int32.toNatClampNeg (((12 : Int32) * v1) + v4)))), (0, am_R 32 i0), (1, am_I v1), (2, am_I v2), (3, am_I v3), (4, am_I v4)], ([am_I v1, am_I (12 : Int32), am_R 54 0], (z, x)))) rfl ?_
        refine to_go 4 (pc' := 55) (a' := ([(5, am_I (xA x 54 0 (Int32.toNatClampNeg (((12 : Int32) * v1) + v4)))), (0, am_R 32 i0), (1, am_I v1), (2, am_I v2), (3, am_I v3), (4, am_I v4)], ([am_I (xA x 54 0 (Int32.toNatClampNeg (((12 : Int32) * v1) + v4))), am_I (((12 : Int32) * v1) + v3), am_R 54 0], (z, x)))) rfl ?_
        refine to_gd 0 55 (c := am_inB (((12 : Int32) * v1) + v3) 60 = true) (pc' := 56) (a' := ([(5, am_I (xA x 54 0 (Int32.toNatClampNeg (((12 : Int32) * v1) + v4)))), (0, am_R 32 i0), (1, am_I v1), (2, am_I v2), (3, am_I v3), (4, am_I v4)], ([], (z, (sA x 54 0 (Int32.toNatClampNeg (((12 : Int32) * v1) + v3)) (xA x 54 0 (Int32.toNatClampNeg (((12 : Int32) * v1) + v4)))))))) rfl rfl (fun c_6 => ?_)
        refine to_go 1 (pc' := 59) (a' := ([(3, am_I (v3 + (1 : Int32))), (5, am_I (xA x 54 0 (Int32.toNatClampNeg (((12 : Int32) * v1) + v4)))), (0, am_R 32 i0), (1, am_I v1), (2, am_I v2), (4, am_I v4)], ([], (z, (sA x 54 0 (Int32.toNatClampNeg (((12 : Int32) * v1) + v3)) (xA x 54 0 (Int32.toNatClampNeg (((12 : Int32) * v1) + v4)))))))) rfl ?_
        refine to_fg [2, 3, 4, 0, 5] (lv' := [(0, am_R 32 i0), (1, am_I v1), (2, am_I v2), (3, am_I (v3 + (1 : Int32))), (4, am_I v4)]) rfl ?_
        exact tb_X9_lapseOf_59 (by omega) ih  i0 v1 v2 (v3 + (1 : Int32)) v4 (sA x 54 0 (Int32.toNatClampNeg (((12 : Int32) * v1) + v3)) (xA x 54 0 (Int32.toNatClampNeg (((12 : Int32) * v1) + v4))))
def f_X9_lapseOf (n : Nat) (i0 : Nat) (v1 : Int32) (v2 : Int32) (x : am_X) : Option (am_X) := b_X9_lapseOf_5 n n i0 v1 v2 (0 : Int32) (0 : Int32) x
theorem t_X9_lapseOf {n : Nat} {d : Nat} {i0 : Nat} {v1 : Int32} {v2 : Int32} {x z : am_X} {q : am_X} (hd : 1 ≤ d) (h : f_X9_lapseOf n i0 v1 v2 x = some q) : am_Ev am_PR d 120 [am_R 32 i0, am_I v1, am_I v2] (z, x) (cvV1 z q) := by
  obtain ⟨d, rfl⟩ : ∃ e, d = e + 1 := ⟨d - 1, by omega⟩
  refine to_ev (P := (am_tab pX9_lapseOf)) rfl (lv := [(0, am_R 32 i0), (1, am_I v1), (2, am_I v2)]) rfl ?_ q h
  unfold f_X9_lapseOf
  refine to_go 4 (pc' := 5) (a' := ([(4, am_I (0 : Int32)), (3, am_I (0 : Int32)), (0, am_R 32 i0), (1, am_I v1), (2, am_I v2)], ([], (z, x)))) rfl ?_
  refine to_fg [2, 3, 4, 1, 0] (lv' := [(0, am_R 32 i0), (1, am_I v1), (2, am_I v2), (3, am_I (0 : Int32)), (4, am_I (0 : Int32))]) rfl ?_
  exact tb_X9_lapseOf_5 (by omega)  n i0 v1 v2 (0 : Int32) (0 : Int32) x
def b_X9_lapseAll_2 (n : Nat) : Nat → Nat → Int32 → am_X → Option (am_X)
  | 0, _, _, _ => none
  | k + 1, i0, v1, x => if (xF x 32 7 i0) ≤ v1 then (some x) else ((f_X9_lapseOf n i0 v1 (xF x 32 6 i0) x).bind fun q2 => b_X9_lapseAll_2 n k i0 (v1 + (1 : Int32)) q2)
theorem tb_X9_lapseAll_2 {n : Nat} {d : Nat} {z : am_X} (hd : 1 ≤ d) : ∀ (k : Nat) (i0 : Nat) (v1 : Int32) (x : am_X), am_To d (am_tab pX9_lapseAll) 2 ([(0, am_R 32 i0), (1, am_I v1)], ([], (z, x))) (cvV1 z) (b_X9_lapseAll_2 n k i0 v1 x) := by
  intro k
  induction k with
  | zero =>
    intro i0 v1 x
    exact to_0
  | succ k ih =>
    intro i0 v1 x
    rw [b_X9_lapseAll_2]
    refine to_if 4 (c := (xF x 32 7 i0) ≤ v1) (p1 := 25) (p2 := 10) (a' := ([(0, am_R 32 i0), (1, am_I v1)], ([], (z, x)))) rfl (fun c_1 => ?_) (fun c_1 => ?_)
    · exact to_rt 1 rfl
    · refine to_go 4 (pc' := 16) (a' := ([(0, am_R 32 i0), (1, am_I v1)], ([am_I (xF x 32 6 i0), am_I v1, am_R 32 i0], (z, x)))) rfl ?_
      refine to_cl 1 (lv := [(0, am_R 32 i0), (1, am_I v1)]) (st := []) (M := (z, x)) (cb := (cvV1 z)) rfl (fun q hq => t_X9_lapseOf (by omega) hq) (fun q2 => ?_)
      refine to_go 2 (pc' := 2) (a' := ([(1, am_I (v1 + (1 : Int32))), (0, am_R 32 i0)], ([], (z, q2)))) rfl ?_
      refine to_fg [1, 0] (lv' := [(0, am_R 32 i0), (1, am_I (v1 + (1 : Int32)))]) rfl ?_
      exact ih i0 (v1 + (1 : Int32)) q2
def f_X9_lapseAll (n : Nat) (i0 : Nat) (x : am_X) : Option (am_X) := b_X9_lapseAll_2 n n i0 (0 : Int32) x
theorem t_X9_lapseAll {n : Nat} {d : Nat} {i0 : Nat} {x z : am_X} {q : am_X} (hd : 2 ≤ d) (h : f_X9_lapseAll n i0 x = some q) : am_Ev am_PR d 121 [am_R 32 i0] (z, x) (cvV1 z q) := by
  obtain ⟨d, rfl⟩ : ∃ e, d = e + 1 := ⟨d - 1, by omega⟩
  refine to_ev (P := (am_tab pX9_lapseAll)) rfl (lv := [(0, am_R 32 i0)]) rfl ?_ q h
  unfold f_X9_lapseAll
  refine to_go 2 (pc' := 2) (a' := ([(1, am_I (0 : Int32)), (0, am_R 32 i0)], ([], (z, x)))) rfl ?_
  refine to_fg [1, 0] (lv' := [(0, am_R 32 i0), (1, am_I (0 : Int32))]) rfl ?_
  exact tb_X9_lapseAll_2 (by omega)  n i0 (0 : Int32) x
def b_X9_law_18 (n : Nat) : Nat → Nat → Int32 → Int32 → am_X → Option (Int32 × am_X)
  | 0, _, _, _, _ => none
  | k + 1, i0, v1, v2, x => if (4 : Int32) ≤ v2 then ((f_X9_lapseAll n i0 (sF (sF (sF (sF (sF (sF x 32 2 i0 (xF x 32 21 i0)) 32 0 i0 (1 : Int32)) 32 1 i0 ((xF x 32 1 i0) + (1 : Int32))) 32 32 i0 (-1 : Int32)) 32 33 i0 (0 : Int32)) 32 16 i0 (0 : Int32))).bind fun q2 => some (v1, q2)) else (if am_inB v2 4 = true then (if am_inB v2 4 = true then (if am_inB v2 4 = true then (if am_inB v2 4 = true then (if am_inB v2 4 = true then (if am_inB v2 4 = true then (if am_inB v2 4 = true then (b_X9_law_18 n k i0 (v1 + (xA x 62 0 (Int32.toNatClampNeg v2))) (v2 + (1 : Int32)) (sA (sA (sA x 43 0 (Int32.toNatClampNeg v2) (xA x 62 0 (Int32.toNatClampNeg v2))) 44 0 (Int32.toNatClampNeg v2) (xA x 63 0 (Int32.toNatClampNeg v2))) 45 0 (Int32.toNatClampNeg v2) (xA x 64 0 (Int32.toNatClampNeg v2)))) else none) else none) else none) else none) else none) else none) else none)
theorem tb_X9_law_18 {n : Nat} {d : Nat} {z : am_X} (hd : 4 ≤ d) : ∀ (k : Nat) (i0 : Nat) (v1 : Int32) (v2 : Int32) (x : am_X), am_To d (am_tab pX9_law) 18 ([(0, am_R 32 i0), (1, am_I v1), (2, am_I v2)], ([], (z, x))) (cvI1 z) (b_X9_law_18 n k i0 v1 v2 x) := by
  intro k
  induction k with
  | zero =>
    intro i0 v1 v2 x
    exact to_0
  | succ k ih =>
    intro i0 v1 v2 x
    rw [b_X9_law_18]
    refine to_if 3 (c := (4 : Int32) ≤ v2) (p1 := 74) (p2 := 23) (a' := ([(0, am_R 32 i0), (1, am_I v1), (2, am_I v2)], ([], (z, x)))) rfl (fun c_1 => ?_) (fun c_1 => ?_)
    · refine to_go 4 (pc' := 82) (a' := ([(0, am_R 32 i0), (1, am_I v1), (2, am_I v2)], ([], (z, (sF x 32 2 i0 (xF x 32 21 i0)))))) rfl ?_
      refine to_gk 2 84 (c := am_bz (1 : Int32) = true) (pc' := 87) (a' := ([(0, am_R 32 i0), (1, am_I v1), (2, am_I v2)], ([], (z, (sF (sF x 32 2 i0 (xF x 32 21 i0)) 32 0 i0 (1 : Int32)))))) rfl rfl (by decide) ?_
      refine to_go 4 (pc' := 93) (a' := ([(0, am_R 32 i0), (1, am_I v1), (2, am_I v2)], ([am_I (1 : Int32), am_I (xF x 32 1 i0), am_R 32 i0], (z, (sF (sF x 32 2 i0 (xF x 32 21 i0)) 32 0 i0 (1 : Int32)))))) rfl ?_
      refine to_go 4 (pc' := 99) (a' := ([(0, am_R 32 i0), (1, am_I v1), (2, am_I v2)], ([am_I (-1 : Int32), am_R 32 i0], (z, (sF (sF (sF x 32 2 i0 (xF x 32 21 i0)) 32 0 i0 (1 : Int32)) 32 1 i0 ((xF x 32 1 i0) + (1 : Int32))))))) rfl ?_
      refine to_go 4 (pc' := 107) (a' := ([(0, am_R 32 i0), (1, am_I v1), (2, am_I v2)], ([], (z, (sF (sF (sF (sF (sF x 32 2 i0 (xF x 32 21 i0)) 32 0 i0 (1 : Int32)) 32 1 i0 ((xF x 32 1 i0) + (1 : Int32))) 32 32 i0 (-1 : Int32)) 32 33 i0 (0 : Int32)))))) rfl ?_
      refine to_go 4 (pc' := 113) (a' := ([(0, am_R 32 i0), (1, am_I v1), (2, am_I v2)], ([am_R 32 i0], (z, (sF (sF (sF (sF (sF (sF x 32 2 i0 (xF x 32 21 i0)) 32 0 i0 (1 : Int32)) 32 1 i0 ((xF x 32 1 i0) + (1 : Int32))) 32 32 i0 (-1 : Int32)) 32 33 i0 (0 : Int32)) 32 16 i0 (0 : Int32)))))) rfl ?_
      refine to_cl 1 (lv := [(0, am_R 32 i0), (1, am_I v1), (2, am_I v2)]) (st := []) (M := (z, (sF (sF (sF (sF (sF (sF x 32 2 i0 (xF x 32 21 i0)) 32 0 i0 (1 : Int32)) 32 1 i0 ((xF x 32 1 i0) + (1 : Int32))) 32 32 i0 (-1 : Int32)) 32 33 i0 (0 : Int32)) 32 16 i0 (0 : Int32)))) (cb := (cvV1 z)) rfl (fun q hq => t_X9_lapseAll (by omega) hq) (fun q2 => ?_)
      exact to_rt 2 (r := (v1, q2)) rfl
    · refine to_go 4 (pc' := 29) (a' := ([(0, am_R 32 i0), (1, am_I v1), (2, am_I v2)], ([am_R 32 i0, am_I v2, am_R 43 0], (z, x)))) rfl ?_
      refine to_gd 2 33 (c := am_inB v2 4 = true) (pc' := 34) (a' := ([(0, am_R 32 i0), (1, am_I v1), (2, am_I v2)], ([am_I (xA x 62 0 (Int32.toNatClampNeg v2)), am_I v2, am_R 43 0], (z, x)))) rfl rfl (fun c_3 => ?_)
      refine to_gd 0 34 (c := am_inB v2 4 = true) (pc' := 35) (a' := ([(0, am_R 32 i0), (1, am_I v1), (2, am_I v2)], ([], (z, (sA x 43 0 (Int32.toNatClampNeg v2) (xA x 62 0 (Int32.toNatClampNeg v2))))))) rfl rfl (fun c_4 => ?_)
      refine to_go 4 (pc' := 41) (a' := ([(0, am_R 32 i0), (1, am_I v1), (2, am_I v2)], ([am_R 32 i0, am_I v2, am_R 44 0], (z, (sA x 43 0 (Int32.toNatClampNeg v2) (xA x 62 0 (Int32.toNatClampNeg v2))))))) rfl ?_
      refine to_gd 2 45 (c := am_inB v2 4 = true) (pc' := 46) (a' := ([(0, am_R 32 i0), (1, am_I v1), (2, am_I v2)], ([am_I (xA x 63 0 (Int32.toNatClampNeg v2)), am_I v2, am_R 44 0], (z, (sA x 43 0 (Int32.toNatClampNeg v2) (xA x 62 0 (Int32.toNatClampNeg v2))))))) rfl rfl (fun c_5 => ?_)
      refine to_gd 0 46 (c := am_inB v2 4 = true) (pc' := 47) (a' := ([(0, am_R 32 i0), (1, am_I v1), (2, am_I v2)], ([], (z, (sA (sA x 43 0 (Int32.toNatClampNeg v2) (xA x 62 0 (Int32.toNatClampNeg v2))) 44 0 (Int32.toNatClampNeg v2) (xA x 63 0 (Int32.toNatClampNeg v2))))))) rfl rfl (fun c_6 => ?_)
      refine to_go 4 (pc' := 53) (a' := ([(0, am_R 32 i0), (1, am_I v1), (2, am_I v2)], ([am_R 32 i0, am_I v2, am_R 45 0], (z, (sA (sA x 43 0 (Int32.toNatClampNeg v2) (xA x 62 0 (Int32.toNatClampNeg v2))) 44 0 (Int32.toNatClampNeg v2) (xA x 63 0 (Int32.toNatClampNeg v2))))))) rfl ?_
      refine to_gd 2 57 (c := am_inB v2 4 = true) (pc' := 58) (a' := ([(0, am_R 32 i0), (1, am_I v1), (2, am_I v2)], ([am_I (xA x 64 0 (Int32.toNatClampNeg v2)), am_I v2, am_R 45 0], (z, (sA (sA x 43 0 (Int32.toNatClampNeg v2) (xA x 62 0 (Int32.toNatClampNeg v2))) 44 0 (Int32.toNatClampNeg v2) (xA x 63 0 (Int32.toNatClampNeg v2))))))) rfl rfl (fun c_7 => ?_)
      refine to_gd 0 58 (c := am_inB v2 4 = true) (pc' := 59) (a' := ([(0, am_R 32 i0), (1, am_I v1), (2, am_I v2)], ([], (z, (sA (sA (sA x 43 0 (Int32.toNatClampNeg v2) (xA x 62 0 (Int32.toNatClampNeg v2))) 44 0 (Int32.toNatClampNeg v2) (xA x 63 0 (Int32.toNatClampNeg v2))) 45 0 (Int32.toNatClampNeg v2) (xA x 64 0 (Int32.toNatClampNeg v2))))))) rfl rfl (fun c_8 => ?_)
      refine to_go 4 (pc' := 65) (a' := ([(0, am_R 32 i0), (1, am_I v1), (2, am_I v2)], ([am_I v2, am_R 62 0, am_I v1], (z, (sA (sA (sA x 43 0 (Int32.toNatClampNeg v2) (xA x 62 0 (Int32.toNatClampNeg v2))) 44 0 (Int32.toNatClampNeg v2) (xA x 63 0 (Int32.toNatClampNeg v2))) 45 0 (Int32.toNatClampNeg v2) (xA x 64 0 (Int32.toNatClampNeg v2))))))) rfl ?_
      refine to_gd 0 65 (c := am_inB v2 4 = true) (pc' := 66) (a' := ([(0, am_R 32 i0), (1, am_I v1), (2, am_I v2)], ([am_I (xA x 62 0 (Int32.toNatClampNeg v2)), am_I v1], (z, (sA (sA (sA x 43 0 (Int32.toNatClampNeg v2) (xA x 62 0 (Int32.toNatClampNeg v2))) 44 0 (Int32.toNatClampNeg v2) (xA x 63 0 (Int32.toNatClampNeg v2))) 45 0 (Int32.toNatClampNeg v2) (xA x 64 0 (Int32.toNatClampNeg v2))))))) rfl rfl (fun c_9 => ?_)
      refine to_go 4 (pc' := 18) (a' := ([(2, am_I (v2 + (1 : Int32))), (1, am_I (v1 + (xA x 62 0 (Int32.toNatClampNeg v2)))), (0, am_R 32 i0)], ([], (z, (sA (sA (sA x 43 0 (Int32.toNatClampNeg v2) (xA x 62 0 (Int32.toNatClampNeg v2))) 44 0 (Int32.toNatClampNeg v2) (xA x 63 0 (Int32.toNatClampNeg v2))) 45 0 (Int32.toNatClampNeg v2) (xA x 64 0 (Int32.toNatClampNeg v2))))))) rfl ?_
      refine to_fg [2, 1, 0] (lv' := [(0, am_R 32 i0), (1, am_I (v1 + (xA x 62 0 (Int32.toNatClampNeg v2)))), (2, am_I (v2 + (1 : Int32)))]) rfl ?_
      exact ih i0 (v1 + (xA x 62 0 (Int32.toNatClampNeg v2))) (v2 + (1 : Int32)) (sA (sA (sA x 43 0 (Int32.toNatClampNeg v2) (xA x 62 0 (Int32.toNatClampNeg v2))) 44 0 (Int32.toNatClampNeg v2) (xA x 63 0 (Int32.toNatClampNeg v2))) 45 0 (Int32.toNatClampNeg v2) (xA x 64 0 (Int32.toNatClampNeg v2)))
def f_X9_law (n : Nat) (i0 : Nat) (x : am_X) : Option (Int32 × am_X) := (f_X9_readLaw n i0 x).bind fun q1 => if ¬ (xF q1 32 19 i0) = 0 then (b_X9_law_18 n n i0 (0 : Int32) (0 : Int32) q1) else (some ((-103 : Int32), q1))
theorem t_X9_law {n : Nat} {d : Nat} {i0 : Nat} {x z : am_X} {q : Int32 × am_X} (hd : 5 ≤ d) (h : f_X9_law n i0 x = some q) : am_Ev am_PR d 116 [am_R 32 i0] (z, x) (cvI1 z q) := by
  obtain ⟨d, rfl⟩ : ∃ e, d = e + 1 := ⟨d - 1, by omega⟩
  refine to_ev (P := (am_tab pX9_law)) rfl (lv := [(0, am_R 32 i0)]) rfl ?_ q h
  unfold f_X9_law
  refine to_cl 2 (lv := [(0, am_R 32 i0)]) (st := []) (M := (z, x)) (cb := (cvV1 z)) rfl (fun q hq => t_X9_readLaw (by omega) hq) (fun q1 => ?_)
  refine to_if 3 (c := ¬ (xF q1 32 19 i0) = 0) (p1 := 14) (p2 := 11) (a' := ([(0, am_R 32 i0)], ([], (z, q1)))) rfl (fun c_2 => ?_) (fun c_2 => ?_)
  · refine to_go 4 (pc' := 18) (a' := ([(2, am_I (0 : Int32)), (1, am_I (0 : Int32)), (0, am_R 32 i0)], ([], (z, q1)))) rfl ?_
    refine to_fg [2, 1, 0] (lv' := [(0, am_R 32 i0), (1, am_I (0 : Int32)), (2, am_I (0 : Int32))]) rfl ?_
    exact tb_X9_law_18 (by omega)  n i0 (0 : Int32) (0 : Int32) q1
  · exact to_rt 2 (r := ((-103 : Int32), q1)) rfl
def f_X9_isDeed (n : Nat) (v0 : Int32) (x : am_X) : Option (Int32 × am_X) := (f_X9_within n v0 (0 : Int32) (3 : Int32) x).bind fun q1 => if am_bz q1.1 = true then some (q1.1, q1.2) else none
theorem t_X9_isDeed {n : Nat} {d : Nat} {v0 : Int32} {x z : am_X} {q : Int32 × am_X} (hd : 2 ≤ d) (h : f_X9_isDeed n v0 x = some q) : am_Ev am_PR d 117 [am_I v0] (z, x) (cvI1 z q) := by
  obtain ⟨d, rfl⟩ : ∃ e, d = e + 1 := ⟨d - 1, by omega⟩
  refine to_ev (P := (am_tab pX9_isDeed)) rfl (lv := [(0, am_I v0)]) rfl ?_ q h
  unfold f_X9_isDeed
  refine to_cl 4 (lv := [(0, am_I v0)]) (st := []) (M := (z, x)) (cb := (cvI1 z)) rfl (fun q hq => t_X9_within (by omega) hq) (fun q1 => ?_)
  exact to_rz 0 6 (c := am_bz q1.1 = true) (r := (q1.1, q1.2)) rfl rfl
def f_X9_deedNow (n : Nat) (i0 : Nat) (v1 : Int32) (v2 : Int32) (x : am_X) : Option (Int32 × am_X) := if ¬ v2 = 0 then (if ¬ v2 = (1 : Int32) then (if am_inB v1 4 = true then (some ((xA x 45 0 (Int32.toNatClampNeg v1)), x)) else none) else (if am_inB v1 4 = true then (some ((xA x 44 0 (Int32.toNatClampNeg v1)), x)) else none)) else (if am_inB v1 4 = true then (some ((xA x 43 0 (Int32.toNatClampNeg v1)), x)) else none)
theorem t_X9_deedNow {n : Nat} {d : Nat} {i0 : Nat} {v1 : Int32} {v2 : Int32} {x z : am_X} {q : Int32 × am_X} (hd : 1 ≤ d) (h : f_X9_deedNow n i0 v1 v2 x = some q) : am_Ev am_PR d 118 [am_R 32 i0, am_I v1, am_I v2] (z, x) (cvI1 z q) := by
  obtain ⟨d, rfl⟩ : ∃ e, d = e + 1 := ⟨d - 1, by omega⟩
  refine to_ev (P := (am_tab pX9_deedNow)) rfl (lv := [(0, am_R 32 i0), (1, am_I v1), (2, am_I v2)]) rfl ?_ q h
  unfold f_X9_deedNow
  refine to_if 2 (c := ¬ v2 = 0) (p1 := 13) (p2 := 4) (a' := ([(0, am_R 32 i0), (1, am_I v1), (2, am_I v2)], ([], (z, x)))) rfl (fun c_1 => ?_) (fun c_1 => ?_)
  · refine to_if 3 (c := ¬ v2 = (1 : Int32)) (p1 := 27) (p2 := 18) (a' := ([(0, am_R 32 i0), (1, am_I v1), (2, am_I v2)], ([], (z, x)))) rfl (fun c_2 => ?_) (fun c_2 => ?_)
    · refine to_gd 3 32 (c := am_inB v1 4 = true) (pc' := 33) (a' := ([(0, am_R 32 i0), (1, am_I v1), (2, am_I v2)], ([am_I (xA x 45 0 (Int32.toNatClampNeg v1))], (z, x)))) rfl rfl (fun c_3 => ?_)
      exact to_rt 1 (r := ((xA x 45 0 (Int32.toNatClampNeg v1)), x)) rfl
    · refine to_gd 3 23 (c := am_inB v1 4 = true) (pc' := 24) (a' := ([(0, am_R 32 i0), (1, am_I v1), (2, am_I v2)], ([am_I (xA x 44 0 (Int32.toNatClampNeg v1))], (z, x)))) rfl rfl (fun c_4 => ?_)
      exact to_rt 2 (r := ((xA x 44 0 (Int32.toNatClampNeg v1)), x)) rfl
  · refine to_gd 3 9 (c := am_inB v1 4 = true) (pc' := 10) (a' := ([(0, am_R 32 i0), (1, am_I v1), (2, am_I v2)], ([am_I (xA x 43 0 (Int32.toNatClampNeg v1))], (z, x)))) rfl rfl (fun c_5 => ?_)
    exact to_rt 2 (r := ((xA x 43 0 (Int32.toNatClampNeg v1)), x)) rfl
def f_X9_deed (n : Nat) (i0 : Nat) (v1 : Int32) (v2 : Int32) (x : am_X) : Option (Int32 × am_X) := (f_X9_isDeed n v1 x).bind fun q1 => if ¬ q1.1 = 0 then ((f_X9_within n v2 (0 : Int32) (2 : Int32) q1.2).bind fun q3 => if ¬ q3.1 = 0 then (if (xF q3.2 32 0 i0) = 0 then (some ((-103 : Int32), q3.2)) else ((f_X9_deedNow n i0 v1 v2 q3.2).bind fun q6 => some (q6.1, q6.2))) else (some ((-102 : Int32), q3.2))) else (some ((-101 : Int32), q1.2))
theorem t_X9_deed {n : Nat} {d : Nat} {i0 : Nat} {v1 : Int32} {v2 : Int32} {x z : am_X} {q : Int32 × am_X} (hd : 3 ≤ d) (h : f_X9_deed n i0 v1 v2 x = some q) : am_Ev am_PR d 119 [am_R 32 i0, am_I v1, am_I v2] (z, x) (cvI1 z q) := by
  obtain ⟨d, rfl⟩ : ∃ e, d = e + 1 := ⟨d - 1, by omega⟩
  refine to_ev (P := (am_tab pX9_deed)) rfl (lv := [(0, am_R 32 i0), (1, am_I v1), (2, am_I v2)]) rfl ?_ q h
  unfold f_X9_deed
  refine to_cl 2 (lv := [(0, am_R 32 i0), (1, am_I v1), (2, am_I v2)]) (st := []) (M := (z, x)) (cb := (cvI1 z)) rfl (fun q hq => t_X9_isDeed (by omega) hq) (fun q1 => ?_)
  refine to_if 1 (c := ¬ q1.1 = 0) (p1 := 10) (p2 := 7) (a' := ([(0, am_R 32 i0), (1, am_I v1), (2, am_I v2)], ([], (z, q1.2)))) rfl (fun c_2 => ?_) (fun c_2 => ?_)
  · refine to_cl 4 (lv := [(0, am_R 32 i0), (1, am_I v1), (2, am_I v2)]) (st := []) (M := (z, q1.2)) (cb := (cvI1 z)) rfl (fun q hq => t_X9_within (by omega) hq) (fun q3 => ?_)
    refine to_if 1 (c := ¬ q3.1 = 0) (p1 := 22) (p2 := 19) (a' := ([(0, am_R 32 i0), (1, am_I v1), (2, am_I v2)], ([], (z, q3.2)))) rfl (fun c_4 => ?_) (fun c_4 => ?_)
    · refine to_if 3 (c := (xF q3.2 32 0 i0) = 0) (p1 := 38) (p2 := 29) (a' := ([(0, am_R 32 i0), (1, am_I v1), (2, am_I v2)], ([], (z, q3.2)))) rfl (fun c_5 => ?_) (fun c_5 => ?_)
      · exact to_rt 2 (r := ((-103 : Int32), q3.2)) rfl
      · refine to_cl 4 (lv := [(0, am_R 32 i0), (1, am_I v1), (2, am_I v2)]) (st := []) (M := (z, q3.2)) (cb := (cvI1 z)) rfl (fun q hq => t_X9_deedNow (by omega) hq) (fun q6 => ?_)
        exact to_rt 2 (r := (q6.1, q6.2)) rfl
    · exact to_rt 2 (r := ((-102 : Int32), q3.2)) rfl
  · exact to_rt 2 (r := ((-101 : Int32), q1.2)) rfl
def b_X9_give_71 (n : Nat) (i0 : Nat) (v1 : Int32) (v2 : Int32) (v3 : Int32) (x : am_X) : Option (Int32 × am_X) := if am_inB (((12 : Int32) * v1) + v3) 60 = true then (if am_inB v1 5 = true then (if am_inB v1 5 = true then (some ((1 : Int32), (sA (sA x 54 0 (Int32.toNatClampNeg (((12 : Int32) * v1) + v3)) v2) 53 0 (Int32.toNatClampNeg v1) ((xA x 53 0 (Int32.toNatClampNeg v1)) + (1 : Int32))))) else none) else none) else none
theorem tb_X9_give_71 {n : Nat} {d : Nat} {z : am_X} (hd : 0 ≤ d) (i0 : Nat) (v1 : Int32) (v2 : Int32) (v3 : Int32) (x : am_X) : am_To d (am_tab pX9_give) 71 ([(0, am_R 32 i0), (1, am_I v1), (2, am_I v2), (3, am_I v3)], ([], (z, x))) (cvI1 z) (b_X9_give_71 n i0 v1 v2 v3 x) := by
  unfold b_X9_give_71
  refine to_go 4 (pc' := 78) (a' := ([(0, am_R 32 i0), (1, am_I v1), (2, am_I v2), (3, am_I v3)], ([am_I v1, am_I (12 : Int32), am_R 54 0], (z, x)))) rfl ?_
  refine to_go 4 (pc' := 82) (a' := ([(0, am_R 32 i0), (1, am_I v1), (2, am_I v2), (3, am_I v3)], ([am_I v2, am_I (((12 : Int32) * v1) + v3), am_R 54 0], (z, x)))) rfl ?_
  refine to_gd 0 82 (c := am_inB (((12 : Int32) * v1) + v3) 60 = true) (pc' := 83) (a' := ([(0, am_R 32 i0), (1, am_I v1), (2, am_I v2), (3, am_I v3)], ([], (z, (sA x 54 0 (Int32.toNatClampNeg (((12 : Int32) * v1) + v3)) v2))))) rfl rfl (fun c_1 => ?_)
  refine to_go 4 (pc' := 89) (a' := ([(0, am_R 32 i0), (1, am_I v1), (2, am_I v2), (3, am_I v3)], ([am_I v1, am_R 53 0, am_I v1, am_R 53 0], (z, (sA x 54 0 (Int32.toNatClampNeg (((12 : Int32) * v1) + v3)) v2))))) rfl ?_
  refine to_gd 0 89 (c := am_inB v1 5 = true) (pc' := 90) (a' := ([(0, am_R 32 i0), (1, am_I v1), (2, am_I v2), (3, am_I v3)], ([am_I (xA x 53 0 (Int32.toNatClampNeg v1)), am_I v1, am_R 53 0], (z, (sA x 54 0 (Int32.toNatClampNeg (((12 : Int32) * v1) + v3)) v2))))) rfl rfl (fun c_2 => ?_)
  refine to_gd 2 92 (c := am_inB v1 5 = true) (pc' := 93) (a' := ([(0, am_R 32 i0), (1, am_I v1), (2, am_I v2), (3, am_I v3)], ([], (z, (sA (sA x 54 0 (Int32.toNatClampNeg (((12 : Int32) * v1) + v3)) v2) 53 0 (Int32.toNatClampNeg v1) ((xA x 53 0 (Int32.toNatClampNeg v1)) + (1 : Int32))))))) rfl rfl (fun c_3 => ?_)
  exact to_rk 1 94 (c := am_bz (1 : Int32) = true) (r := ((1 : Int32), (sA (sA x 54 0 (Int32.toNatClampNeg (((12 : Int32) * v1) + v3)) v2) 53 0 (Int32.toNatClampNeg v1) ((xA x 53 0 (Int32.toNatClampNeg v1)) + (1 : Int32))))) rfl rfl (by decide)
def b_X9_give_20 (n : Nat) : Nat → Nat → Int32 → Int32 → Int32 → am_X → Option (Int32 × am_X)
  | 0, _, _, _, _, _ => none
  | k + 1, i0, v1, v2, v3, x => if v3 ≤ 0 then (b_X9_give_71 n i0 v1 v2 v3 x) else (if am_inB ((((12 : Int32) * v1) + v3) - (1 : Int32)) 60 = true then (if (xA x 54 0 (Int32.toNatClampNeg ((((12 : Int32) * v1) + v3) - (1 : Int32)))) ≤ v2 then (b_X9_give_71 n i0 v1 v2 v3 x) else (if am_inB ((((12 : Int32) * v1) + v3) - (1 : Int32)) 60 = true then (if am_inB (((12 : Int32) * v1) + v3) 60 = true then (b_X9_give_20 n k i0 v1 v2 (v3 + (-1 : Int32)) (sA x 54 0 (Int32.toNatClampNeg (((12 : Int32) * v1) + v3)) (xA x 54 0 (Int32.toNatClampNeg ((((12 : Int32) * v1) + v3) - (1 : Int32)))))) else none) else none)) else none)
theorem tb_X9_give_20 {n : Nat} {d : Nat} {z : am_X} (hd : 0 ≤ d) : ∀ (k : Nat) (i0 : Nat) (v1 : Int32) (v2 : Int32) (v3 : Int32) (x : am_X), am_To d (am_tab pX9_give) 20 ([(0, am_R 32 i0), (1, am_I v1), (2, am_I v2), (3, am_I v3)], ([], (z, x))) (cvI1 z) (b_X9_give_20 n k i0 v1 v2 v3 x) := by
  intro k
  induction k with
  | zero =>
    intro i0 v1 v2 v3 x
    exact to_0
  | succ k ih =>
    intro i0 v1 v2 v3 x
    rw [b_X9_give_20]
    refine to_if 2 (c := v3 ≤ 0) (p1 := 71) (p2 := 24) (a' := ([(0, am_R 32 i0), (1, am_I v1), (2, am_I v2), (3, am_I v3)], ([], (z, x)))) rfl (fun c_1 => ?_) (fun c_1 => ?_)
    · refine to_fg [0, 1, 2, 3] (lv' := [(0, am_R 32 i0), (1, am_I v1), (2, am_I v2), (3, am_I v3)]) rfl ?_
      exact tb_X9_give_71 (by omega)  i0 v1 v2 v3 x
    · refine to_go 4 (pc' := 31) (a' := ([(0, am_R 32 i0), (1, am_I v1), (2, am_I v2), (3, am_I v3)], ([am_I v1, am_I (12 : Int32), am_R 54 0], (z, x)))) rfl ?_
      refine to_go 4 (pc' := 35) (a' := ([(0, am_R 32 i0), (1, am_I v1), (2, am_I v2), (3, am_I v3)], ([am_I (1 : Int32), am_I (((12 : Int32) * v1) + v3), am_R 54 0], (z, x)))) rfl ?_
      refine to_gd 1 36 (c := am_inB ((((12 : Int32) * v1) + v3) - (1 : Int32)) 60 = true) (pc' := 37) (a' := ([(0, am_R 32 i0), (1, am_I v1), (2, am_I v2), (3, am_I v3)], ([am_I (xA x 54 0 (Int32.toNatClampNeg ((((12 : Int32) * v1) + v3) - (1 : Int32))))], (z, x)))) rfl rfl (fun c_2 => ?_)
      refine to_if 2 (c := (xA x 54 0 (Int32.toNatClampNeg ((((12 : Int32) * v1) + v3) - (1 : Int32)))) ≤ v2) (p1 := 71) (p2 := 41) (a' := ([(0, am_R 32 i0), (1, am_I v1), (2, am_I v2), (3, am_I v3)], ([], (z, x)))) rfl (fun c_3 => ?_) (fun c_3 => ?_)
      · refine to_fg [0, 1, 2, 3] (lv' := [(0, am_R 32 i0), (1, am_I v1), (2, am_I v2), (3, am_I v3)]) rfl ?_
        exact tb_X9_give_71 (by omega)  i0 v1 v2 v3 x
      · refine to_go 4 (pc' := 48) (a' := ([(0, am_R 32 i0), (1, am_I v1), (2, am_I v2), (3, am_I v3)], ([am_I v1, am_I (12 : Int32), am_R 54 0], (z, x)))) rfl ?_
        refine to_go 4 (pc' := 52) (a' := ([(0, am_R 32 i0), (1, am_I v1), (2, am_I v2), (3, am_I v3)], ([am_R 32 i0, am_I (((12 : Int32) * v1) + v3), am_R 54 0], (z, x)))) rfl ?_
        refine to_go 4 (pc' := 59) (a' := ([(0, am_R 32 i0), (1, am_I v1), (2, am_I v2), (3, am_I v3)], ([am_I ((12 : Int32) * v1), am_R 54 0, am_I (((12 : Int32) * v1) + v3), am_R 54 0], (z, x)))) rfl ?_
        refine to_go 4 (pc' := 63) (a' := ([(0, am_R 32 i0), (1, am_I v1), (2, am_I v2), (3, am_I v3)], ([am_I ((((12 : Int32) * v1) + v3) - (1 : Int32)), am_R 54 0, am_I (((12 : Int32) * v1) + v3), am_R 54 0], (z, x)))) rfl ?_
        refine to_gd 0 63 (c := am_inB ((((12 : Int32) * v1) + v3) - (1 : Int32)) 60 = true) (pc' := 64) (a' := ([(0, am_R 32 i0), (1, am_I v1), (2, am_I v2), (3, am_I v3)], ([am_I (xA x 54 0 (Int32.toNatClampNeg ((((12 : Int32) * v1) + v3) - (1 : Int32)))), am_I (((12 : Int32) * v1) + v3), am_R 54 0], (z, x)))) rfl rfl (fun c_4 => ?_)
        refine to_gd 0 64 (c := am_inB (((12 : Int32) * v1) + v3) 60 = true) (pc' := 65) (a' := ([(0, am_R 32 i0), (1, am_I v1), (2, am_I v2), (3, am_I v3)], ([], (z, (sA x 54 0 (Int32.toNatClampNeg (((12 : Int32) * v1) + v3)) (xA x 54 0 (Int32.toNatClampNeg ((((12 : Int32) * v1) + v3) - (1 : Int32))))))))) rfl rfl (fun c_5 => ?_)
        refine to_go 2 (pc' := 20) (a' := ([(3, am_I (v3 + (-1 : Int32))), (0, am_R 32 i0), (1, am_I v1), (2, am_I v2)], ([], (z, (sA x 54 0 (Int32.toNatClampNeg (((12 : Int32) * v1) + v3)) (xA x 54 0 (Int32.toNatClampNeg ((((12 : Int32) * v1) + v3) - (1 : Int32))))))))) rfl ?_
        refine to_fg [1, 2, 3, 0] (lv' := [(0, am_R 32 i0), (1, am_I v1), (2, am_I v2), (3, am_I (v3 + (-1 : Int32)))]) rfl ?_
        exact ih i0 v1 v2 (v3 + (-1 : Int32)) (sA x 54 0 (Int32.toNatClampNeg (((12 : Int32) * v1) + v3)) (xA x 54 0 (Int32.toNatClampNeg ((((12 : Int32) * v1) + v3) - (1 : Int32)))))
def f_X9_give (n : Nat) (i0 : Nat) (v1 : Int32) (v2 : Int32) (x : am_X) : Option (Int32 × am_X) := if am_inB v1 5 = true then (if ¬ (xA x 53 0 (Int32.toNatClampNeg v1)) = (12 : Int32) then (if am_inB v1 5 = true then (b_X9_give_20 n n i0 v1 v2 (xA x 53 0 (Int32.toNatClampNeg v1)) x) else none) else (some ((0 : Int32), x))) else none
theorem t_X9_give {n : Nat} {d : Nat} {i0 : Nat} {v1 : Int32} {v2 : Int32} {x z : am_X} {q : Int32 × am_X} (hd : 1 ≤ d) (h : f_X9_give n i0 v1 v2 x = some q) : am_Ev am_PR d 122 [am_R 32 i0, am_I v1, am_I v2] (z, x) (cvI1 z q) := by
  obtain ⟨d, rfl⟩ : ∃ e, d = e + 1 := ⟨d - 1, by omega⟩
  refine to_ev (P := (am_tab pX9_give)) rfl (lv := [(0, am_R 32 i0), (1, am_I v1), (2, am_I v2)]) rfl ?_ q h
  unfold f_X9_give
  refine to_gd 3 5 (c := am_inB v1 5 = true) (pc' := 6) (a' := ([(0, am_R 32 i0), (1, am_I v1), (2, am_I v2)], ([am_I (xA x 53 0 (Int32.toNatClampNeg v1))], (z, x)))) rfl rfl (fun c_1 => ?_)
  refine to_if 2 (c := ¬ (xA x 53 0 (Int32.toNatClampNeg v1)) = (12 : Int32)) (p1 := 13) (p2 := 11) (a' := ([(0, am_R 32 i0), (1, am_I v1), (2, am_I v2)], ([], (z, x)))) rfl (fun c_2 => ?_) (fun c_2 => ?_)
  · refine to_gd 3 18 (c := am_inB v1 5 = true) (pc' := 19) (a' := ([(0, am_R 32 i0), (1, am_I v1), (2, am_I v2)], ([am_I (xA x 53 0 (Int32.toNatClampNeg v1))], (z, x)))) rfl rfl (fun c_3 => ?_)
    refine to_go 1 (pc' := 20) (a' := ([(3, am_I (xA x 53 0 (Int32.toNatClampNeg v1))), (0, am_R 32 i0), (1, am_I v1), (2, am_I v2)], ([], (z, x)))) rfl ?_
    refine to_fg [1, 2, 3, 0] (lv' := [(0, am_R 32 i0), (1, am_I v1), (2, am_I v2), (3, am_I (xA x 53 0 (Int32.toNatClampNeg v1)))]) rfl ?_
    exact tb_X9_give_20 (by omega)  n i0 v1 v2 (xA x 53 0 (Int32.toNatClampNeg v1)) x
  · exact to_rk 1 12 (c := am_bz (0 : Int32) = true) (r := ((0 : Int32), x)) rfl rfl (by decide)
def b_X9_countOf_43 (n : Nat) (h5 : Nat → Int32 → Int32 → Int32 → Int32 → am_X → Option (Int32 × am_X)) (i0 : Nat) (v1 : Int32) (v2 : Int32) (v4 : Int32) (s0 : Int32) (s1 : Int32) (x : am_X) : Option (Int32 × am_X) := h5 i0 v1 v2 (s0 + s1) (v4 + (1 : Int32)) x
theorem tb_X9_countOf_43 {n : Nat} {h5 : Nat → Int32 → Int32 → Int32 → Int32 → am_X → Option (Int32 × am_X)} {d : Nat} {z : am_X} (hd : 1 ≤ d) (hh5 : ∀ (i0 : Nat) (v1 : Int32) (v2 : Int32) (v3 : Int32) (v4 : Int32) (x : am_X), am_To d (am_tab pX9_countOf) 5 ([(0, am_R 32 i0), (1, am_I v1), (2, am_I v2), (3, am_I v3), (4, am_I v4)], ([], (z, x))) (cvI1 z) (h5 i0 v1 v2 v3 v4 x)) (i0 : Nat) (v1 : Int32) (v2 : Int32) (v4 : Int32) (s0 : Int32) (s1 : Int32) (x : am_X) : am_To d (am_tab pX9_countOf) 43 ([(0, am_R 32 i0), (1, am_I v1), (2, am_I v2), (4, am_I v4)], ([am_I s1, am_I s0], (z, x))) (cvI1 z) (b_X9_countOf_43 n h5 i0 v1 v2 v4 s0 s1 x) := by
  unfold b_X9_countOf_43
  refine to_go 4 (pc' := 5) (a' := ([(4, am_I (v4 + (1 : Int32))), (3, am_I (s0 + s1)), (0, am_R 32 i0), (1, am_I v1), (2, am_I v2)], ([], (z, x)))) rfl ?_
  refine to_fg [2, 3, 4, 1, 0] (lv' := [(0, am_R 32 i0), (1, am_I v1), (2, am_I v2), (3, am_I (s0 + s1)), (4, am_I (v4 + (1 : Int32)))]) rfl ?_
  exact hh5 i0 v1 v2 (s0 + s1) (v4 + (1 : Int32)) x
def b_X9_countOf_5 (n : Nat) : Nat → Nat → Int32 → Int32 → Int32 → Int32 → am_X → Option (Int32 × am_X)
  | 0, _, _, _, _, _, _ => none
  | k + 1, i0, v1, v2, v3, v4, x => if am_inB v1 5 = true then (if (xA x 53 0 (Int32.toNatClampNeg v1)) ≤ v4 then (some (v3, x)) else (if am_inB (((12 : Int32) * v1) + v4) 60 = true then ((f_X9_has n v2 ((xA x 54 0 (Int32.toNatClampNeg (((12 : Int32) * v1) + v4))) - (xA x 54 0 (Int32.toNatClampNeg (((12 : Int32) * v1) + v4))) / (4 : Int32) * (4 : Int32)) x).bind fun q4 => if q4.1 = 0 then (b_X9_countOf_43 n (b_X9_countOf_5 n k) i0 v1 v2 v4 v3 (0 : Int32) q4.2) else (b_X9_countOf_43 n (b_X9_countOf_5 n k) i0 v1 v2 v4 v3 (1 : Int32) q4.2)) else none)) else none
theorem tb_X9_countOf_5 {n : Nat} {d : Nat} {z : am_X} (hd : 1 ≤ d) : ∀ (k : Nat) (i0 : Nat) (v1 : Int32) (v2 : Int32) (v3 : Int32) (v4 : Int32) (x : am_X), am_To d (am_tab pX9_countOf) 5 ([(0, am_R 32 i0), (1, am_I v1), (2, am_I v2), (3, am_I v3), (4, am_I v4)], ([], (z, x))) (cvI1 z) (b_X9_countOf_5 n k i0 v1 v2 v3 v4 x) := by
  intro k
  induction k with
  | zero =>
    intro i0 v1 v2 v3 v4 x
    exact to_0
  | succ k ih =>
    intro i0 v1 v2 v3 v4 x
    rw [b_X9_countOf_5]
    refine to_go 4 (pc' := 12) (a' := ([(0, am_R 32 i0), (1, am_I v1), (2, am_I v2), (3, am_I v3), (4, am_I v4)], ([am_I v1, am_R 53 0, am_I v4], (z, x)))) rfl ?_
    refine to_gd 0 12 (c := am_inB v1 5 = true) (pc' := 13) (a' := ([(0, am_R 32 i0), (1, am_I v1), (2, am_I v2), (3, am_I v3), (4, am_I v4)], ([am_I (xA x 53 0 (Int32.toNatClampNeg v1)), am_I v4], (z, x)))) rfl rfl (fun c_1 => ?_)
    refine to_if 1 (c := (xA x 53 0 (Int32.toNatClampNeg v1)) ≤ v4) (p1 := 51) (p2 := 16) (a' := ([(0, am_R 32 i0), (1, am_I v1), (2, am_I v2), (3, am_I v3), (4, am_I v4)], ([], (z, x)))) rfl (fun c_2 => ?_) (fun c_2 => ?_)
    · exact to_rt 2 (r := (v3, x)) rfl
    · refine to_go 4 (pc' := 22) (a' := ([(0, am_R 32 i0), (1, am_I v1), (2, am_I v2), (3, am_I v3), (4, am_I v4)], ([am_R 54 0, am_I v2, am_I v3], (z, x)))) rfl ?_
      refine to_go 4 (pc' := 28) (a' := ([(0, am_R 32 i0), (1, am_I v1), (2, am_I v2), (3, am_I v3), (4, am_I v4)], ([am_I v4, am_I ((12 : Int32) * v1), am_R 54 0, am_I v2, am_I v3], (z, x)))) rfl ?_
      refine to_gd 1 29 (c := am_inB (((12 : Int32) * v1) + v4) 60 = true) (pc' := 30) (a' := ([(0, am_R 32 i0), (1, am_I v1), (2, am_I v2), (3, am_I v3), (4, am_I v4)], ([am_I (xA x 54 0 (Int32.toNatClampNeg (((12 : Int32) * v1) + v4))), am_I v2, am_I v3], (z, x)))) rfl rfl (fun c_3 => ?_)
      refine to_gk 1 31 (c := ¬ (4 : Int32) = 0) (pc' := 32) (a' := ([(0, am_R 32 i0), (1, am_I v1), (2, am_I v2), (3, am_I v3), (4, am_I v4)], ([am_I ((xA x 54 0 (Int32.toNatClampNeg (((12 : Int32) * v1) + v4))) - (xA x 54 0 (Int32.toNatClampNeg (((12 : Int32) * v1) + v4))) / (4 : Int32) * (4 : Int32)), am_I v2, am_I v3], (z, x)))) rfl rfl (by decide) ?_
      refine to_cl 1 (lv := [(0, am_R 32 i0), (1, am_I v1), (2, am_I v2), (3, am_I v3), (4, am_I v4)]) (st := [am_I v3]) (M := (z, x)) (cb := (cvI1 z)) rfl (fun q hq => t_X9_has (by omega) hq) (fun q4 => ?_)
      refine to_if 1 (c := q4.1 = 0) (p1 := 42) (p2 := 38) (a' := ([(0, am_R 32 i0), (1, am_I v1), (2, am_I v2), (3, am_I v3), (4, am_I v4)], ([am_I v3], (z, q4.2)))) rfl (fun c_5 => ?_) (fun c_5 => ?_)
      · refine to_go 1 (pc' := 43) (a' := ([(0, am_R 32 i0), (1, am_I v1), (2, am_I v2), (3, am_I v3), (4, am_I v4)], ([am_I (0 : Int32), am_I v3], (z, q4.2)))) rfl ?_
        refine to_fg [0, 1, 2, 4] (lv' := [(0, am_R 32 i0), (1, am_I v1), (2, am_I v2), (4, am_I v4)]) rfl ?_
        exact tb_X9_countOf_43 (by omega) ih  i0 v1 v2 v4 v3 (0 : Int32) q4.2
      · refine to_go 2 (pc' := 43) (a' := ([(0, am_R 32 i0), (1, am_I v1), (2, am_I v2), (3, am_I v3), (4, am_I v4)], ([am_I (1 : Int32), am_I v3], (z, q4.2)))) rfl ?_
        refine to_fg [0, 1, 2, 4] (lv' := [(0, am_R 32 i0), (1, am_I v1), (2, am_I v2), (4, am_I v4)]) rfl ?_
        exact tb_X9_countOf_43 (by omega) ih  i0 v1 v2 v4 v3 (1 : Int32) q4.2
def f_X9_countOf (n : Nat) (i0 : Nat) (v1 : Int32) (v2 : Int32) (x : am_X) : Option (Int32 × am_X) := b_X9_countOf_5 n n i0 v1 v2 (0 : Int32) (0 : Int32) x
theorem t_X9_countOf {n : Nat} {d : Nat} {i0 : Nat} {v1 : Int32} {v2 : Int32} {x z : am_X} {q : Int32 × am_X} (hd : 2 ≤ d) (h : f_X9_countOf n i0 v1 v2 x = some q) : am_Ev am_PR d 123 [am_R 32 i0, am_I v1, am_I v2] (z, x) (cvI1 z q) := by
  obtain ⟨d, rfl⟩ : ∃ e, d = e + 1 := ⟨d - 1, by omega⟩
  refine to_ev (P := (am_tab pX9_countOf)) rfl (lv := [(0, am_R 32 i0), (1, am_I v1), (2, am_I v2)]) rfl ?_ q h
  unfold f_X9_countOf
  refine to_go 4 (pc' := 5) (a' := ([(4, am_I (0 : Int32)), (3, am_I (0 : Int32)), (0, am_R 32 i0), (1, am_I v1), (2, am_I v2)], ([], (z, x)))) rfl ?_
  refine to_fg [2, 3, 4, 1, 0] (lv' := [(0, am_R 32 i0), (1, am_I v1), (2, am_I v2), (3, am_I (0 : Int32)), (4, am_I (0 : Int32))]) rfl ?_
  exact tb_X9_countOf_5 (by omega)  n i0 v1 v2 (0 : Int32) (0 : Int32) x
def b_X9_take_91 (n : Nat) (h12 : Nat → Int32 → Int32 → Int32 → Int32 → Int32 → Int32 → Int32 → am_X → Option (Int32 × am_X)) (i0 : Nat) (v1 : Int32) (v2 : Int32) (v3 : Int32) (v4 : Int32) (v5 : Int32) (v6 : Int32) (v7 : Int32) (x : am_X) : Option (Int32 × am_X) := h12 i0 v1 v2 v3 v4 v5 v6 (v7 + (1 : Int32)) x
theorem tb_X9_take_91 {n : Nat} {h12 : Nat → Int32 → Int32 → Int32 → Int32 → Int32 → Int32 → Int32 → am_X → Option (Int32 × am_X)} {d : Nat} {z : am_X} (hd : 1 ≤ d) (hh12 : ∀ (i0 : Nat) (v1 : Int32) (v2 : Int32) (v3 : Int32) (v4 : Int32) (v5 : Int32) (v6 : Int32) (v7 : Int32) (x : am_X), am_To d (am_tab pX9_take) 12 ([(0, am_R 32 i0), (1, am_I v1), (2, am_I v2), (3, am_I v3), (4, am_I v4), (5, am_I v5), (6, am_I v6), (7, am_I v7)], ([], (z, x))) (cvI1 z) (h12 i0 v1 v2 v3 v4 v5 v6 v7 x)) (i0 : Nat) (v1 : Int32) (v2 : Int32) (v3 : Int32) (v4 : Int32) (v5 : Int32) (v6 : Int32) (v7 : Int32) (x : am_X) : am_To d (am_tab pX9_take) 91 ([(0, am_R 32 i0), (1, am_I v1), (2, am_I v2), (3, am_I v3), (4, am_I v4), (5, am_I v5), (6, am_I v6), (7, am_I v7)], ([], (z, x))) (cvI1 z) (b_X9_take_91 n h12 i0 v1 v2 v3 v4 v5 v6 v7 x) := by
  unfold b_X9_take_91
  refine to_go 2 (pc' := 12) (a' := ([(7, am_I (v7 + (1 : Int32))), (0, am_R 32 i0), (1, am_I v1), (2, am_I v2), (3, am_I v3), (4, am_I v4), (5, am_I v5), (6, am_I v6)], ([], (z, x)))) rfl ?_
  refine to_fg [1, 2, 3, 4, 5, 6, 7, 0] (lv' := [(0, am_R 32 i0), (1, am_I v1), (2, am_I v2), (3, am_I v3), (4, am_I v4), (5, am_I v5), (6, am_I v6), (7, am_I (v7 + (1 : Int32)))]) rfl ?_
  exact hh12 i0 v1 v2 v3 v4 v5 v6 (v7 + (1 : Int32)) x
def b_X9_take_66 (n : Nat) (h12 : Nat → Int32 → Int32 → Int32 → Int32 → Int32 → Int32 → Int32 → am_X → Option (Int32 × am_X)) (i0 : Nat) (v1 : Int32) (v2 : Int32) (v3 : Int32) (v4 : Int32) (v5 : Int32) (v7 : Int32) (s0 : Int32) (x : am_X) : Option (Int32 × am_X) := b_X9_take_91 n h12 i0 v1 v2 v3 v4 (v5 + (-1 : Int32)) s0 v7 x
theorem tb_X9_take_66 {n : Nat} {h12 : Nat → Int32 → Int32 → Int32 → Int32 → Int32 → Int32 → Int32 → am_X → Option (Int32 × am_X)} {d : Nat} {z : am_X} (hd : 1 ≤ d) (hh12 : ∀ (i0 : Nat) (v1 : Int32) (v2 : Int32) (v3 : Int32) (v4 : Int32) (v5 : Int32) (v6 : Int32) (v7 : Int32) (x : am_X), am_To d (am_tab pX9_take) 12 ([(0, am_R 32 i0), (1, am_I v1), (2, am_I v2), (3, am_I v3), (4, am_I v4), (5, am_I v5), (6, am_I v6), (7, am_I v7)], ([], (z, x))) (cvI1 z) (h12 i0 v1 v2 v3 v4 v5 v6 v7 x)) (i0 : Nat) (v1 : Int32) (v2 : Int32) (v3 : Int32) (v4 : Int32) (v5 : Int32) (v7 : Int32) (s0 : Int32) (x : am_X) : am_To d (am_tab pX9_take) 66 ([(0, am_R 32 i0), (1, am_I v1), (2, am_I v2), (3, am_I v3), (4, am_I v4), (5, am_I v5), (7, am_I v7)], ([am_I s0], (z, x))) (cvI1 z) (b_X9_take_66 n h12 i0 v1 v2 v3 v4 v5 v7 s0 x) := by
  unfold b_X9_take_66
  refine to_go 3 (pc' := 91) (a' := ([(5, am_I (v5 + (-1 : Int32))), (6, am_I s0), (0, am_R 32 i0), (1, am_I v1), (2, am_I v2), (3, am_I v3), (4, am_I v4), (7, am_I v7)], ([], (z, x)))) rfl ?_
  refine to_fg [2, 3, 4, 5, 6, 0, 1, 7] (lv' := [(0, am_R 32 i0), (1, am_I v1), (2, am_I v2), (3, am_I v3), (4, am_I v4), (5, am_I (v5 + (-1 : Int32))), (6, am_I s0), (7, am_I v7)]) rfl ?_
  exact tb_X9_take_91 (by omega) hh12  i0 v1 v2 v3 v4 (v5 + (-1 : Int32)) s0 v7 x
def b_X9_take_74 (n : Nat) (h12 : Nat → Int32 → Int32 → Int32 → Int32 → Int32 → Int32 → Int32 → am_X → Option (Int32 × am_X)) (i0 : Nat) (v1 : Int32) (v2 : Int32) (v3 : Int32) (v4 : Int32) (v5 : Int32) (v6 : Int32) (v7 : Int32) (v8 : Int32) (x : am_X) : Option (Int32 × am_X) := if am_inB (((12 : Int32) * v1) + v4) 60 = true then (b_X9_take_91 n h12 i0 v1 v2 v3 (v4 + (1 : Int32)) v5 v6 v7 (sA x 54 0 (Int32.toNatClampNeg (((12 : Int32) * v1) + v4)) v8)) else none
theorem tb_X9_take_74 {n : Nat} {h12 : Nat → Int32 → Int32 → Int32 → Int32 → Int32 → Int32 → Int32 → am_X → Option (Int32 × am_X)} {d : Nat} {z : am_X} (hd : 1 ≤ d) (hh12 : ∀ (i0 : Nat) (v1 : Int32) (v2 : Int32) (v3 : Int32) (v4 : Int32) (v5 : Int32) (v6 : Int32) (v7 : Int32) (x : am_X), am_To d (am_tab pX9_take) 12 ([(0, am_R 32 i0), (1, am_I v1), (2, am_I v2), (3, am_I v3), (4, am_I v4), (5, am_I v5), (6, am_I v6), (7, am_I v7)], ([], (z, x))) (cvI1 z) (h12 i0 v1 v2 v3 v4 v5 v6 v7 x)) (i0 : Nat) (v1 : Int32) (v2 : Int32) (v3 : Int32) (v4 : Int32) (v5 : Int32) (v6 : Int32) (v7 : Int32) (v8 : Int32) (x : am_X) : am_To d (am_tab pX9_take) 74 ([(0, am_R 32 i0), (1, am_I v1), (2, am_I v2), (3, am_I v3), (4, am_I v4), (5, am_I v5), (6, am_I v6), (7, am_I v7), (8, am_I v8)], ([], (z, x))) (cvI1 z) (b_X9_take_74 n h12 i0 v1 v2 v3 v4 v5 v6 v7 v8 x) := by
  unfold b_X9_take_74
  refine to_go 4 (pc' := 81) (a' := ([(0, am_R 32 i0), (1, am_I v1), (2, am_I v2), (3, am_I v3), (4, am_I v4), (5, am_I v5), (6, am_I v6), (7, am_I v7), (8, am_I v8)], ([am_I v1, am_I (12 : Int32), am_R 54 0], (z, x)))) rfl ?_
  refine to_go 4 (pc' := 87) (a' := ([(0, am_R 32 i0), (1, am_I v1), (2, am_I v2), (3, am_I v3), (4, am_I v4), (5, am_I v5), (6, am_I v6), (7, am_I v7), (8, am_I v8)], ([am_I v8, am_I (((12 : Int32) * v1) + v4), am_R 54 0], (z, x)))) rfl ?_
  refine to_gd 0 87 (c := am_inB (((12 : Int32) * v1) + v4) 60 = true) (pc' := 88) (a' := ([(0, am_R 32 i0), (1, am_I v1), (2, am_I v2), (3, am_I v3), (4, am_I v4), (5, am_I v5), (6, am_I v6), (7, am_I v7), (8, am_I v8)], ([], (z, (sA x 54 0 (Int32.toNatClampNeg (((12 : Int32) * v1) + v4)) v8))))) rfl rfl (fun c_1 => ?_)
  refine to_go 1 (pc' := 91) (a' := ([(4, am_I (v4 + (1 : Int32))), (0, am_R 32 i0), (1, am_I v1), (2, am_I v2), (3, am_I v3), (5, am_I v5), (6, am_I v6), (7, am_I v7), (8, am_I v8)], ([], (z, (sA x 54 0 (Int32.toNatClampNeg (((12 : Int32) * v1) + v4)) v8))))) rfl ?_
  refine to_fg [1, 2, 3, 4, 0, 5, 6, 7] (lv' := [(0, am_R 32 i0), (1, am_I v1), (2, am_I v2), (3, am_I v3), (4, am_I (v4 + (1 : Int32))), (5, am_I v5), (6, am_I v6), (7, am_I v7)]) rfl ?_
  exact tb_X9_take_91 (by omega) hh12  i0 v1 v2 v3 (v4 + (1 : Int32)) v5 v6 v7 (sA x 54 0 (Int32.toNatClampNeg (((12 : Int32) * v1) + v4)) v8)
def b_X9_take_12 (n : Nat) : Nat → Nat → Int32 → Int32 → Int32 → Int32 → Int32 → Int32 → Int32 → am_X → Option (Int32 × am_X)
  | 0, _, _, _, _, _, _, _, _, _ => none
  | k + 1, i0, v1, v2, v3, v4, v5, v6, v7, x => if am_inB v1 5 = true then (if (xA x 53 0 (Int32.toNatClampNeg v1)) ≤ v7 then (if am_inB v1 5 = true then (some (v6, (sA x 53 0 (Int32.toNatClampNeg v1) v4))) else none) else (if am_inB (((12 : Int32) * v1) + v7) 60 = true then (if v5 ≤ 0 then (b_X9_take_74 n (b_X9_take_12 n k) i0 v1 v2 v3 v4 v5 v6 v7 (xA x 54 0 (Int32.toNatClampNeg (((12 : Int32) * v1) + v7))) x) else ((f_X9_has n v2 ((xA x 54 0 (Int32.toNatClampNeg (((12 : Int32) * v1) + v7))) - (xA x 54 0 (Int32.toNatClampNeg (((12 : Int32) * v1) + v7))) / (4 : Int32) * (4 : Int32)) x).bind fun q6 => if q6.1 = 0 then (b_X9_take_74 n (b_X9_take_12 n k) i0 v1 v2 v3 v4 v5 v6 v7 (xA x 54 0 (Int32.toNatClampNeg (((12 : Int32) * v1) + v7))) q6.2) else (if ¬ v5 = v3 then (b_X9_take_66 n (b_X9_take_12 n k) i0 v1 v2 v3 v4 v5 v7 v6 q6.2) else (b_X9_take_66 n (b_X9_take_12 n k) i0 v1 v2 v3 v4 v5 v7 (xA x 54 0 (Int32.toNatClampNeg (((12 : Int32) * v1) + v7))) q6.2)))) else none)) else none
theorem tb_X9_take_12 {n : Nat} {d : Nat} {z : am_X} (hd : 1 ≤ d) : ∀ (k : Nat) (i0 : Nat) (v1 : Int32) (v2 : Int32) (v3 : Int32) (v4 : Int32) (v5 : Int32) (v6 : Int32) (v7 : Int32) (x : am_X), am_To d (am_tab pX9_take) 12 ([(0, am_R 32 i0), (1, am_I v1), (2, am_I v2), (3, am_I v3), (4, am_I v4), (5, am_I v5), (6, am_I v6), (7, am_I v7)], ([], (z, x))) (cvI1 z) (b_X9_take_12 n k i0 v1 v2 v3 v4 v5 v6 v7 x) := by
  intro k
  induction k with
  | zero =>
    intro i0 v1 v2 v3 v4 v5 v6 v7 x
    exact to_0
  | succ k ih =>
    intro i0 v1 v2 v3 v4 v5 v6 v7 x
    rw [b_X9_take_12]
    refine to_go 4 (pc' := 19) (a' := ([(0, am_R 32 i0), (1, am_I v1), (2, am_I v2), (3, am_I v3), (4, am_I v4), (5, am_I v5), (6, am_I v6), (7, am_I v7)], ([am_I v1, am_R 53 0, am_I v7], (z, x)))) rfl ?_
    refine to_gd 0 19 (c := am_inB v1 5 = true) (pc' := 20) (a' := ([(0, am_R 32 i0), (1, am_I v1), (2, am_I v2), (3, am_I v3), (4, am_I v4), (5, am_I v5), (6, am_I v6), (7, am_I v7)], ([am_I (xA x 53 0 (Int32.toNatClampNeg v1)), am_I v7], (z, x)))) rfl rfl (fun c_1 => ?_)
    refine to_if 1 (c := (xA x 53 0 (Int32.toNatClampNeg v1)) ≤ v7) (p1 := 97) (p2 := 23) (a' := ([(0, am_R 32 i0), (1, am_I v1), (2, am_I v2), (3, am_I v3), (4, am_I v4), (5, am_I v5), (6, am_I v6), (7, am_I v7)], ([], (z, x)))) rfl (fun c_2 => ?_) (fun c_2 => ?_)
    · refine to_go 4 (pc' := 104) (a' := ([(0, am_R 32 i0), (1, am_I v1), (2, am_I v2), (3, am_I v3), (4, am_I v4), (5, am_I v5), (6, am_I v6), (7, am_I v7)], ([am_I v4, am_I v1, am_R 53 0], (z, x)))) rfl ?_
      refine to_gd 0 104 (c := am_inB v1 5 = true) (pc' := 105) (a' := ([(0, am_R 32 i0), (1, am_I v1), (2, am_I v2), (3, am_I v3), (4, am_I v4), (5, am_I v5), (6, am_I v6), (7, am_I v7)], ([], (z, (sA x 53 0 (Int32.toNatClampNeg v1) v4))))) rfl rfl (fun c_3 => ?_)
      exact to_rt 2 (r := (v6, (sA x 53 0 (Int32.toNatClampNeg v1) v4))) rfl
    · refine to_go 4 (pc' := 30) (a' := ([(0, am_R 32 i0), (1, am_I v1), (2, am_I v2), (3, am_I v3), (4, am_I v4), (5, am_I v5), (6, am_I v6), (7, am_I v7)], ([am_I v1, am_I (12 : Int32), am_R 54 0], (z, x)))) rfl ?_
      refine to_gd 3 34 (c := am_inB (((12 : Int32) * v1) + v7) 60 = true) (pc' := 35) (a' := ([(0, am_R 32 i0), (1, am_I v1), (2, am_I v2), (3, am_I v3), (4, am_I v4), (5, am_I v5), (6, am_I v6), (7, am_I v7)], ([am_I (xA x 54 0 (Int32.toNatClampNeg (((12 : Int32) * v1) + v7)))], (z, x)))) rfl rfl (fun c_4 => ?_)
      refine to_if 3 (c := v5 ≤ 0) (p1 := 74) (p2 := 42) (a' := ([(8, am_I (xA x 54 0 (Int32.toNatClampNeg (((12 : Int32) * v1) + v7)))), (0, am_R 32 i0), (1, am_I v1), (2, am_I v2), (3, am_I v3), (4, am_I v4), (5, am_I v5), (6, am_I v6), (7, am_I v7)], ([], (z, x)))) rfl (fun c_5 => ?_) (fun c_5 => ?_)
      · refine to_fg [1, 2, 3, 4, 5, 6, 7, 8, 0] (lv' := [(0, am_R 32 i0), (1, am_I v1), (2, am_I v2), (3, am_I v3), (4, am_I v4), (5, am_I v5), (6, am_I v6), (7, am_I v7), (8, am_I (xA x 54 0 (Int32.toNatClampNeg (((12 : Int32) * v1) + v7))))]) rfl ?_
        exact tb_X9_take_74 (by omega) ih  i0 v1 v2 v3 v4 v5 v6 v7 (xA x 54 0 (Int32.toNatClampNeg (((12 : Int32) * v1) + v7))) x
      · refine to_gk 3 46 (c := ¬ (4 : Int32) = 0) (pc' := 47) (a' := ([(8, am_I (xA x 54 0 (Int32.toNatClampNeg (((12 : Int32) * v1) + v7)))), (0, am_R 32 i0), (1, am_I v1), (2, am_I v2), (3, am_I v3), (4, am_I v4), (5, am_I v5), (6, am_I v6), (7, am_I v7)], ([am_I ((xA x 54 0 (Int32.toNatClampNeg (((12 : Int32) * v1) + v7))) - (xA x 54 0 (Int32.toNatClampNeg (((12 : Int32) * v1) + v7))) / (4 : Int32) * (4 : Int32)), am_I v2], (z, x)))) rfl rfl (by decide) ?_
        refine to_cl 1 (lv := [(8, am_I (xA x 54 0 (Int32.toNatClampNeg (((12 : Int32) * v1) + v7)))), (0, am_R 32 i0), (1, am_I v1), (2, am_I v2), (3, am_I v3), (4, am_I v4), (5, am_I v5), (6, am_I v6), (7, am_I v7)]) (st := []) (M := (z, x)) (cb := (cvI1 z)) rfl (fun q hq => t_X9_has (by omega) hq) (fun q6 => ?_)
        refine to_if 1 (c := q6.1 = 0) (p1 := 74) (p2 := 53) (a' := ([(8, am_I (xA x 54 0 (Int32.toNatClampNeg (((12 : Int32) * v1) + v7)))), (0, am_R 32 i0), (1, am_I v1), (2, am_I v2), (3, am_I v3), (4, am_I v4), (5, am_I v5), (6, am_I v6), (7, am_I v7)], ([], (z, q6.2)))) rfl (fun c_7 => ?_) (fun c_7 => ?_)
        · refine to_fg [1, 2, 3, 4, 5, 6, 7, 8, 0] (lv' := [(0, am_R 32 i0), (1, am_I v1), (2, am_I v2), (3, am_I v3), (4, am_I v4), (5, am_I v5), (6, am_I v6), (7, am_I v7), (8, am_I (xA x 54 0 (Int32.toNatClampNeg (((12 : Int32) * v1) + v7))))]) rfl ?_
          exact tb_X9_take_74 (by omega) ih  i0 v1 v2 v3 v4 v5 v6 v7 (xA x 54 0 (Int32.toNatClampNeg (((12 : Int32) * v1) + v7))) q6.2
        · refine to_if 3 (c := ¬ v5 = v3) (p1 := 64) (p2 := 59) (a' := ([(8, am_I (xA x 54 0 (Int32.toNatClampNeg (((12 : Int32) * v1) + v7)))), (0, am_R 32 i0), (1, am_I v1), (2, am_I v2), (3, am_I v3), (4, am_I v4), (5, am_I v5), (6, am_I v6), (7, am_I v7)], ([], (z, q6.2)))) rfl (fun c_8 => ?_) (fun c_8 => ?_)
          · refine to_go 1 (pc' := 66) (a' := ([(8, am_I (xA x 54 0 (Int32.toNatClampNeg (((12 : Int32) * v1) + v7)))), (0, am_R 32 i0), (1, am_I v1), (2, am_I v2), (3, am_I v3), (4, am_I v4), (5, am_I v5), (6, am_I v6), (7, am_I v7)], ([am_I v6], (z, q6.2)))) rfl ?_
            refine to_fg [1, 2, 3, 4, 5, 6, 8] (lv' := [(0, am_R 32 i0), (1, am_I v1), (2, am_I v2), (3, am_I v3), (4, am_I v4), (5, am_I v5), (7, am_I v7)]) rfl ?_
            exact tb_X9_take_66 (by omega) ih  i0 v1 v2 v3 v4 v5 v7 v6 q6.2
          · refine to_go 2 (pc' := 66) (a' := ([(8, am_I (xA x 54 0 (Int32.toNatClampNeg (((12 : Int32) * v1) + v7)))), (0, am_R 32 i0), (1, am_I v1), (2, am_I v2), (3, am_I v3), (4, am_I v4), (5, am_I v5), (6, am_I v6), (7, am_I v7)], ([am_I (xA x 54 0 (Int32.toNatClampNeg (((12 : Int32) * v1) + v7)))], (z, q6.2)))) rfl ?_
            refine to_fg [1, 2, 3, 4, 5, 6, 8] (lv' := [(0, am_R 32 i0), (1, am_I v1), (2, am_I v2), (3, am_I v3), (4, am_I v4), (5, am_I v5), (7, am_I v7)]) rfl ?_
            exact tb_X9_take_66 (by omega) ih  i0 v1 v2 v3 v4 v5 v7 (xA x 54 0 (Int32.toNatClampNeg (((12 : Int32) * v1) + v7))) q6.2
def f_X9_take (n : Nat) (i0 : Nat) (v1 : Int32) (v2 : Int32) (v3 : Int32) (x : am_X) : Option (Int32 × am_X) := b_X9_take_12 n n i0 v1 v2 v3 (0 : Int32) v3 (-1 : Int32) (0 : Int32) x
theorem t_X9_take {n : Nat} {d : Nat} {i0 : Nat} {v1 : Int32} {v2 : Int32} {v3 : Int32} {x z : am_X} {q : Int32 × am_X} (hd : 2 ≤ d) (h : f_X9_take n i0 v1 v2 v3 x = some q) : am_Ev am_PR d 124 [am_R 32 i0, am_I v1, am_I v2, am_I v3] (z, x) (cvI1 z q) := by
  obtain ⟨d, rfl⟩ : ∃ e, d = e + 1 := ⟨d - 1, by omega⟩
  refine to_ev (P := (am_tab pX9_take)) rfl (lv := [(0, am_R 32 i0), (1, am_I v1), (2, am_I v2), (3, am_I v3)]) rfl ?_ q h
  unfold f_X9_take
  refine to_go 4 (pc' := 6) (a' := ([(5, am_I v3), (4, am_I (0 : Int32)), (0, am_R 32 i0), (1, am_I v1), (2, am_I v2), (3, am_I v3)], ([], (z, x)))) rfl ?_
  refine to_go 4 (pc' := 12) (a' := ([(7, am_I (0 : Int32)), (6, am_I (-1 : Int32)), (5, am_I v3), (4, am_I (0 : Int32)), (0, am_R 32 i0), (1, am_I v1), (2, am_I v2), (3, am_I v3)], ([], (z, x)))) rfl ?_
  refine to_fg [4, 5, 6, 7, 3, 2, 1, 0] (lv' := [(0, am_R 32 i0), (1, am_I v1), (2, am_I v2), (3, am_I v3), (4, am_I (0 : Int32)), (5, am_I v3), (6, am_I (-1 : Int32)), (7, am_I (0 : Int32))]) rfl ?_
  exact tb_X9_take_12 (by omega)  n i0 v1 v2 v3 (0 : Int32) v3 (-1 : Int32) (0 : Int32) x
def f_X9_isThere (n : Nat) (i0 : Nat) (v1 : Int32) (x : am_X) : Option (Int32 × am_X) := (f_X9_within n v1 (0 : Int32) ((xF x 32 7 i0) - (1 : Int32)) x).bind fun q1 => if am_bz q1.1 = true then some (q1.1, q1.2) else none
theorem t_X9_isThere {n : Nat} {d : Nat} {i0 : Nat} {v1 : Int32} {x z : am_X} {q : Int32 × am_X} (hd : 2 ≤ d) (h : f_X9_isThere n i0 v1 x = some q) : am_Ev am_PR d 125 [am_R 32 i0, am_I v1] (z, x) (cvI1 z q) := by
  obtain ⟨d, rfl⟩ : ∃ e, d = e + 1 := ⟨d - 1, by omega⟩
  refine to_ev (P := (am_tab pX9_isThere)) rfl (lv := [(0, am_R 32 i0), (1, am_I v1)]) rfl ?_ q h
  unfold f_X9_isThere
  refine to_go 4 (pc' := 6) (a' := ([(0, am_R 32 i0), (1, am_I v1)], ([am_I (xF x 32 7 i0), am_I (0 : Int32), am_I v1], (z, x)))) rfl ?_
  refine to_cl 3 (lv := [(0, am_R 32 i0), (1, am_I v1)]) (st := []) (M := (z, x)) (cb := (cvI1 z)) rfl (fun q hq => t_X9_within (by omega) hq) (fun q1 => ?_)
  exact to_rz 0 11 (c := am_bz q1.1 = true) (r := (q1.1, q1.2)) rfl rfl
def f_X9_isPerson (n : Nat) (i0 : Nat) (v1 : Int32) (x : am_X) : Option (Int32 × am_X) := (f_X9_isThere n i0 v1 x).bind fun q1 => if q1.1 = 0 then (some ((0 : Int32), q1.2)) else (if am_inB v1 5 = true then (if ¬ (xA q1.2 52 0 (Int32.toNatClampNeg v1)) = 0 then (some ((0 : Int32), q1.2)) else (some ((1 : Int32), q1.2))) else none)
theorem t_X9_isPerson {n : Nat} {d : Nat} {i0 : Nat} {v1 : Int32} {x z : am_X} {q : Int32 × am_X} (hd : 3 ≤ d) (h : f_X9_isPerson n i0 v1 x = some q) : am_Ev am_PR d 126 [am_R 32 i0, am_I v1] (z, x) (cvI1 z q) := by
  obtain ⟨d, rfl⟩ : ∃ e, d = e + 1 := ⟨d - 1, by omega⟩
  refine to_ev (P := (am_tab pX9_isPerson)) rfl (lv := [(0, am_R 32 i0), (1, am_I v1)]) rfl ?_ q h
  unfold f_X9_isPerson
  refine to_cl 3 (lv := [(0, am_R 32 i0), (1, am_I v1)]) (st := []) (M := (z, x)) (cb := (cvI1 z)) rfl (fun q hq => t_X9_isThere (by omega) hq) (fun q1 => ?_)
  refine to_if 1 (c := q1.1 = 0) (p1 := 21) (p2 := 8) (a' := ([(0, am_R 32 i0), (1, am_I v1)], ([], (z, q1.2)))) rfl (fun c_2 => ?_) (fun c_2 => ?_)
  · exact to_rk 1 22 (c := am_bz (0 : Int32) = true) (r := ((0 : Int32), q1.2)) rfl rfl (by decide)
  · refine to_gd 3 13 (c := am_inB v1 5 = true) (pc' := 14) (a' := ([(0, am_R 32 i0), (1, am_I v1)], ([am_I (xA q1.2 52 0 (Int32.toNatClampNeg v1))], (z, q1.2)))) rfl rfl (fun c_3 => ?_)
    refine to_if 1 (c := ¬ (xA q1.2 52 0 (Int32.toNatClampNeg v1)) = 0) (p1 := 21) (p2 := 17) (a' := ([(0, am_R 32 i0), (1, am_I v1)], ([], (z, q1.2)))) rfl (fun c_4 => ?_) (fun c_4 => ?_)
    · exact to_rk 1 22 (c := am_bz (0 : Int32) = true) (r := ((0 : Int32), q1.2)) rfl rfl (by decide)
    · exact to_rk 2 22 (c := am_bz (1 : Int32) = true) (r := ((1 : Int32), q1.2)) rfl rfl (by decide)
def f_X9_person (n : Nat) (i0 : Nat) (v1 : Int32) (x : am_X) : Option (Int32 × am_X) := (f_X9_within n v1 (0 : Int32) (4 : Int32) x).bind fun q1 => if ¬ q1.1 = 0 then (if ¬ (xF q1.2 32 0 i0) = 0 then (if ¬ (xF q1.2 32 7 i0) = (4 : Int32) then (if am_inB (xF q1.2 32 7 i0) 5 = true then (if am_inB (xF q1.2 32 7 i0) 5 = true then (if am_inB (xF q1.2 32 7 i0) 5 = true then (if am_inB (xF q1.2 32 7 i0) 5 = true then (if am_inB (xF q1.2 32 7 i0) 5 = true then (if am_inB (xF q1.2 32 7 i0) 5 = true then (some (((xF (sF (sA (sA (sA (sA (sA (sA q1.2 48 0 (Int32.toNatClampNeg (xF q1.2 32 7 i0)) v1) 49 0 (Int32.toNatClampNeg (xF q1.2 32 7 i0)) (0 : Int32)) 50 0 (Int32.toNatClampNeg (xF q1.2 32 7 i0)) (0 : Int32)) 51 0 (Int32.toNatClampNeg (xF q1.2 32 7 i0)) (0 : Int32)) 52 0 (Int32.toNatClampNeg (xF q1.2 32 7 i0)) (0 : Int32)) 53 0 (Int32.toNatClampNeg (xF q1.2 32 7 i0)) (0 : Int32)) 32 7 i0 ((xF q1.2 32 7 i0) + (1 : Int32))) 32 7 i0) - (1 : Int32)), (sF (sA (sA (sA (sA (sA (sA q1.2 48 0 (Int32.toNatClampNeg (xF q1.2 32 7 i0)) v1) 49 0 (Int32.toNatClampNeg (xF q1.2 32 7 i0)) (0 : Int32)) 50 0 (Int32.toNatClampNeg (xF q1.2 32 7 i0)) (0 : Int32)) 51 0 (Int32.toNatClampNeg (xF q1.2 32 7 i0)) (0 : Int32)) 52 0 (Int32.toNatClampNeg (xF q1.2 32 7 i0)) (0 : Int32)) 53 0 (Int32.toNatClampNeg (xF q1.2 32 7 i0)) (0 : Int32)) 32 7 i0 ((xF q1.2 32 7 i0) + (1 : Int32))))) else none) else none) else none) else none) else none) else none) else (some ((-104 : Int32), q1.2))) else (some ((-103 : Int32), q1.2))) else (some ((-102 : Int32), q1.2))
theorem t_X9_person {n : Nat} {d : Nat} {i0 : Nat} {v1 : Int32} {x z : am_X} {q : Int32 × am_X} (hd : 2 ≤ d) (h : f_X9_person n i0 v1 x = some q) : am_Ev am_PR d 127 [am_R 32 i0, am_I v1] (z, x) (cvI1 z q) := by
  obtain ⟨d, rfl⟩ : ∃ e, d = e + 1 := ⟨d - 1, by omega⟩
  refine to_ev (P := (am_tab pX9_person)) rfl (lv := [(0, am_R 32 i0), (1, am_I v1)]) rfl ?_ q h
  unfold f_X9_person
  refine to_cl 4 (lv := [(0, am_R 32 i0), (1, am_I v1)]) (st := []) (M := (z, x)) (cb := (cvI1 z)) rfl (fun q hq => t_X9_within (by omega) hq) (fun q1 => ?_)
  refine to_if 1 (c := ¬ q1.1 = 0) (p1 := 12) (p2 := 9) (a' := ([(0, am_R 32 i0), (1, am_I v1)], ([], (z, q1.2)))) rfl (fun c_2 => ?_) (fun c_2 => ?_)
  · refine to_if 3 (c := ¬ (xF q1.2 32 0 i0) = 0) (p1 := 22) (p2 := 19) (a' := ([(0, am_R 32 i0), (1, am_I v1)], ([], (z, q1.2)))) rfl (fun c_3 => ?_) (fun c_3 => ?_)
    · refine to_if 4 (c := ¬ (xF q1.2 32 7 i0) = (4 : Int32)) (p1 := 33) (p2 := 30) (a' := ([(0, am_R 32 i0), (1, am_I v1)], ([], (z, q1.2)))) rfl (fun c_4 => ?_) (fun c_4 => ?_)
      · refine to_go 4 (pc' := 41) (a' := ([(0, am_R 32 i0), (1, am_I v1)], ([am_I (xF q1.2 32 7 i0), am_R 48 0], (z, q1.2)))) rfl ?_
        refine to_gd 1 42 (c := am_inB (xF q1.2 32 7 i0) 5 = true) (pc' := 43) (a' := ([(0, am_R 32 i0), (1, am_I v1)], ([], (z, (sA q1.2 48 0 (Int32.toNatClampNeg (xF q1.2 32 7 i0)) v1))))) rfl rfl (fun c_5 => ?_)
        refine to_go 4 (pc' := 51) (a' := ([(0, am_R 32 i0), (1, am_I v1)], ([am_I (xF q1.2 32 7 i0), am_R 49 0], (z, (sA q1.2 48 0 (Int32.toNatClampNeg (xF q1.2 32 7 i0)) v1))))) rfl ?_
        refine to_gd 1 52 (c := am_inB (xF q1.2 32 7 i0) 5 = true) (pc' := 53) (a' := ([(0, am_R 32 i0), (1, am_I v1)], ([], (z, (sA (sA q1.2 48 0 (Int32.toNatClampNeg (xF q1.2 32 7 i0)) v1) 49 0 (Int32.toNatClampNeg (xF q1.2 32 7 i0)) (0 : Int32)))))) rfl rfl (fun c_6 => ?_)
        refine to_go 4 (pc' := 61) (a' := ([(0, am_R 32 i0), (1, am_I v1)], ([am_I (xF q1.2 32 7 i0), am_R 50 0], (z, (sA (sA q1.2 48 0 (Int32.toNatClampNeg (xF q1.2 32 7 i0)) v1) 49 0 (Int32.toNatClampNeg (xF q1.2 32 7 i0)) (0 : Int32)))))) rfl ?_
        refine to_gd 1 62 (c := am_inB (xF q1.2 32 7 i0) 5 = true) (pc' := 63) (a' := ([(0, am_R 32 i0), (1, am_I v1)], ([], (z, (sA (sA (sA q1.2 48 0 (Int32.toNatClampNeg (xF q1.2 32 7 i0)) v1) 49 0 (Int32.toNatClampNeg (xF q1.2 32 7 i0)) (0 : Int32)) 50 0 (Int32.toNatClampNeg (xF q1.2 32 7 i0)) (0 : Int32)))))) rfl rfl (fun c_7 => ?_)
        refine to_go 4 (pc' := 71) (a' := ([(0, am_R 32 i0), (1, am_I v1)], ([am_I (xF q1.2 32 7 i0), am_R 51 0], (z, (sA (sA (sA q1.2 48 0 (Int32.toNatClampNeg (xF q1.2 32 7 i0)) v1) 49 0 (Int32.toNatClampNeg (xF q1.2 32 7 i0)) (0 : Int32)) 50 0 (Int32.toNatClampNeg (xF q1.2 32 7 i0)) (0 : Int32)))))) rfl ?_
        refine to_gd 1 72 (c := am_inB (xF q1.2 32 7 i0) 5 = true) (pc' := 73) (a' := ([(0, am_R 32 i0), (1, am_I v1)], ([], (z, (sA (sA (sA (sA q1.2 48 0 (Int32.toNatClampNeg (xF q1.2 32 7 i0)) v1) 49 0 (Int32.toNatClampNeg (xF q1.2 32 7 i0)) (0 : Int32)) 50 0 (Int32.toNatClampNeg (xF q1.2 32 7 i0)) (0 : Int32)) 51 0 (Int32.toNatClampNeg (xF q1.2 32 7 i0)) (0 : Int32)))))) rfl rfl (fun c_8 => ?_)
        refine to_go 4 (pc' := 81) (a' := ([(0, am_R 32 i0), (1, am_I v1)], ([am_I (xF q1.2 32 7 i0), am_R 52 0], (z, (sA (sA (sA (sA q1.2 48 0 (Int32.toNatClampNeg (xF q1.2 32 7 i0)) v1) 49 0 (Int32.toNatClampNeg (xF q1.2 32 7 i0)) (0 : Int32)) 50 0 (Int32.toNatClampNeg (xF q1.2 32 7 i0)) (0 : Int32)) 51 0 (Int32.toNatClampNeg (xF q1.2 32 7 i0)) (0 : Int32)))))) rfl ?_
        refine to_gd 1 82 (c := am_inB (xF q1.2 32 7 i0) 5 = true) (pc' := 83) (a' := ([(0, am_R 32 i0), (1, am_I v1)], ([], (z, (sA (sA (sA (sA (sA q1.2 48 0 (Int32.toNatClampNeg (xF q1.2 32 7 i0)) v1) 49 0 (Int32.toNatClampNeg (xF q1.2 32 7 i0)) (0 : Int32)) 50 0 (Int32.toNatClampNeg (xF q1.2 32 7 i0)) (0 : Int32)) 51 0 (Int32.toNatClampNeg (xF q1.2 32 7 i0)) (0 : Int32)) 52 0 (Int32.toNatClampNeg (xF q1.2 32 7 i0)) (0 : Int32)))))) rfl rfl (fun c_9 => ?_)
        refine to_go 4 (pc' := 91) (a' := ([(0, am_R 32 i0), (1, am_I v1)], ([am_I (xF q1.2 32 7 i0), am_R 53 0], (z, (sA (sA (sA (sA (sA q1.2 48 0 (Int32.toNatClampNeg (xF q1.2 32 7 i0)) v1) 49 0 (Int32.toNatClampNeg (xF q1.2 32 7 i0)) (0 : Int32)) 50 0 (Int32.toNatClampNeg (xF q1.2 32 7 i0)) (0 : Int32)) 51 0 (Int32.toNatClampNeg (xF q1.2 32 7 i0)) (0 : Int32)) 52 0 (Int32.toNatClampNeg (xF q1.2 32 7 i0)) (0 : Int32)))))) rfl ?_
        refine to_gd 1 92 (c := am_inB (xF q1.2 32 7 i0) 5 = true) (pc' := 93) (a' := ([(0, am_R 32 i0), (1, am_I v1)], ([], (z, (sA (sA (sA (sA (sA (sA q1.2 48 0 (Int32.toNatClampNeg (xF q1.2 32 7 i0)) v1) 49 0 (Int32.toNatClampNeg (xF q1.2 32 7 i0)) (0 : Int32)) 50 0 (Int32.toNatClampNeg (xF q1.2 32 7 i0)) (0 : Int32)) 51 0 (Int32.toNatClampNeg (xF q1.2 32 7 i0)) (0 : Int32)) 52 0 (Int32.toNatClampNeg (xF q1.2 32 7 i0)) (0 : Int32)) 53 0 (Int32.toNatClampNeg (xF q1.2 32 7 i0)) (0 : Int32)))))) rfl rfl (fun c_10 => ?_)
        refine to_go 4 (pc' := 99) (a' := ([(0, am_R 32 i0), (1, am_I v1)], ([am_I (1 : Int32), am_I (xF q1.2 32 7 i0), am_R 32 i0], (z, (sA (sA (sA (sA (sA (sA q1.2 48 0 (Int32.toNatClampNeg (xF q1.2 32 7 i0)) v1) 49 0 (Int32.toNatClampNeg (xF q1.2 32 7 i0)) (0 : Int32)) 50 0 (Int32.toNatClampNeg (xF q1.2 32 7 i0)) (0 : Int32)) 51 0 (Int32.toNatClampNeg (xF q1.2 32 7 i0)) (0 : Int32)) 52 0 (Int32.toNatClampNeg (xF q1.2 32 7 i0)) (0 : Int32)) 53 0 (Int32.toNatClampNeg (xF q1.2 32 7 i0)) (0 : Int32)))))) rfl ?_
        refine to_go 4 (pc' := 107) (a' := ([(0, am_R 32 i0), (1, am_I v1)], ([am_I (xF (sF (sA (sA (sA (sA (sA (sA q1.2 48 0 (Int32.toNatClampNeg (xF q1.2 32 7 i0)) v1) 49 0 (Int32.toNatClampNeg (xF q1.2 32 7 i0)) (0 : Int32)) 50 0 (Int32.toNatClampNeg (xF q1.2 32 7 i0)) (0 : Int32)) 51 0 (Int32.toNatClampNeg (xF q1.2 32 7 i0)) (0 : Int32)) 52 0 (Int32.toNatClampNeg (xF q1.2 32 7 i0)) (0 : Int32)) 53 0 (Int32.toNatClampNeg (xF q1.2 32 7 i0)) (0 : Int32)) 32 7 i0 ((xF q1.2 32 7 i0) + (1 : Int32))) 32 7 i0)], (z, (sF (sA (sA (sA (sA (sA (sA q1.2 48 0 (Int32.toNatClampNeg (xF q1.2 32 7 i0)) v1) 49 0 (Int32.toNatClampNeg (xF q1.2 32 7 i0)) (0 : Int32)) 50 0 (Int32.toNatClampNeg (xF q1.2 32 7 i0)) (0 : Int32)) 51 0 (Int32.toNatClampNeg (xF q1.2 32 7 i0)) (0 : Int32)) 52 0 (Int32.toNatClampNeg (xF q1.2 32 7 i0)) (0 : Int32)) 53 0 (Int32.toNatClampNeg (xF q1.2 32 7 i0)) (0 : Int32)) 32 7 i0 ((xF q1.2 32 7 i0) + (1 : Int32))))))) rfl ?_
        exact to_rt 3 (r := (((xF (sF (sA (sA (sA (sA (sA (sA q1.2 48 0 (Int32.toNatClampNeg (xF q1.2 32 7 i0)) v1) 49 0 (Int32.toNatClampNeg (xF q1.2 32 7 i0)) (0 : Int32)) 50 0 (Int32.toNatClampNeg (xF q1.2 32 7 i0)) (0 : Int32)) 51 0 (Int32.toNatClampNeg (xF q1.2 32 7 i0)) (0 : Int32)) 52 0 (Int32.toNatClampNeg (xF q1.2 32 7 i0)) (0 : Int32)) 53 0 (Int32.toNatClampNeg (xF q1.2 32 7 i0)) (0 : Int32)) 32 7 i0 ((xF q1.2 32 7 i0) + (1 : Int32))) 32 7 i0) - (1 : Int32)), (sF (sA (sA (sA (sA (sA (sA q1.2 48 0 (Int32.toNatClampNeg (xF q1.2 32 7 i0)) v1) 49 0 (Int32.toNatClampNeg (xF q1.2 32 7 i0)) (0 : Int32)) 50 0 (Int32.toNatClampNeg (xF q1.2 32 7 i0)) (0 : Int32)) 51 0 (Int32.toNatClampNeg (xF q1.2 32 7 i0)) (0 : Int32)) 52 0 (Int32.toNatClampNeg (xF q1.2 32 7 i0)) (0 : Int32)) 53 0 (Int32.toNatClampNeg (xF q1.2 32 7 i0)) (0 : Int32)) 32 7 i0 ((xF q1.2 32 7 i0) + (1 : Int32))))) rfl
      · exact to_rt 2 (r := ((-104 : Int32), q1.2)) rfl
    · exact to_rt 2 (r := ((-103 : Int32), q1.2)) rfl
  · exact to_rt 2 (r := ((-102 : Int32), q1.2)) rfl
def b_X9_personNow_80 (n : Nat) (i0 : Nat) (v1 : Int32) (v2 : Int32) (x : am_X) : Option (Int32 × am_X) := (f_X9_countOf n i0 v1 ((1 : Int32) <<< ((v2 - (4 : Int32)) &&& 31)) x).bind fun q1 => some (q1.1, q1.2)
theorem tb_X9_personNow_80 {n : Nat} {d : Nat} {z : am_X} (hd : 2 ≤ d) (i0 : Nat) (v1 : Int32) (v2 : Int32) (x : am_X) : am_To d (am_tab pX9_personNow) 80 ([(0, am_R 32 i0), (1, am_I v1), (2, am_I v2)], ([], (z, x))) (cvI1 z) (b_X9_personNow_80 n i0 v1 v2 x) := by
  unfold b_X9_personNow_80
  refine to_go 4 (pc' := 84) (a' := ([(0, am_R 32 i0), (1, am_I v1), (2, am_I v2)], ([am_I v2, am_I (1 : Int32), am_I v1, am_R 32 i0], (z, x)))) rfl ?_
  refine to_cl 4 (lv := [(0, am_R 32 i0), (1, am_I v1), (2, am_I v2)]) (st := []) (M := (z, x)) (cb := (cvI1 z)) rfl (fun q hq => t_X9_countOf (by omega) hq) (fun q1 => ?_)
  exact to_rt 1 (r := (q1.1, q1.2)) rfl
def f_X9_personNow (n : Nat) (i0 : Nat) (v1 : Int32) (v2 : Int32) (x : am_X) : Option (Int32 × am_X) := if v2 = (0 : Int32) then (if am_inB v1 5 = true then (some ((xA x 48 0 (Int32.toNatClampNeg v1)), x)) else none) else if v2 = (1 : Int32) then (if am_inB v1 5 = true then (some ((xA x 49 0 (Int32.toNatClampNeg v1)), x)) else none) else if v2 = (2 : Int32) then (if am_inB v1 5 = true then (some ((xA x 50 0 (Int32.toNatClampNeg v1)), x)) else none) else if v2 = (3 : Int32) then (if am_inB v1 5 = true then (some ((xA x 53 0 (Int32.toNatClampNeg v1)), x)) else none) else if v2 = (4 : Int32) then (b_X9_personNow_80 n i0 v1 v2 x) else if v2 = (5 : Int32) then (b_X9_personNow_80 n i0 v1 v2 x) else if v2 = (6 : Int32) then (b_X9_personNow_80 n i0 v1 v2 x) else if v2 = (7 : Int32) then (if am_inB v1 5 = true then (if ¬ (xA x 53 0 (Int32.toNatClampNeg v1)) = 0 then (if am_inB ((12 : Int32) * v1) 60 = true then (some (((xA x 54 0 (Int32.toNatClampNeg ((12 : Int32) * v1))) / (4 : Int32)), x)) else none) else (some ((-1 : Int32), x))) else none) else if v2 = (8 : Int32) then (if am_inB v1 5 = true then (some ((xA x 51 0 (Int32.toNatClampNeg v1)), x)) else none) else (if am_inB v1 5 = true then (some ((xA x 52 0 (Int32.toNatClampNeg v1)), x)) else none)
theorem t_X9_personNow {n : Nat} {d : Nat} {i0 : Nat} {v1 : Int32} {v2 : Int32} {x z : am_X} {q : Int32 × am_X} (hd : 3 ≤ d) (h : f_X9_personNow n i0 v1 v2 x = some q) : am_Ev am_PR d 128 [am_R 32 i0, am_I v1, am_I v2] (z, x) (cvI1 z q) := by
  obtain ⟨d, rfl⟩ : ∃ e, d = e + 1 := ⟨d - 1, by omega⟩
  refine to_ev (P := (am_tab pX9_personNow)) rfl (lv := [(0, am_R 32 i0), (1, am_I v1), (2, am_I v2)]) rfl ?_ q h
  unfold f_X9_personNow
  refine to_si 2 (x := v2) (c := (0 : Int32)) (t := 52) (a' := ([(0, am_R 32 i0), (1, am_I v1), (2, am_I v2)], ([], (z, x)))) rfl (by decide) (fun c_1 => ?_) (fun c_1 => ?_)
  · refine to_gd 3 57 (c := am_inB v1 5 = true) (pc' := 58) (a' := ([(0, am_R 32 i0), (1, am_I v1), (2, am_I v2)], ([am_I (xA x 48 0 (Int32.toNatClampNeg v1))], (z, x)))) rfl rfl (fun c_2 => ?_)
    exact to_rt 1 (r := ((xA x 48 0 (Int32.toNatClampNeg v1)), x)) rfl
  refine to_si 2 (x := v2) (c := (1 : Int32)) (t := 59) (a' := ([(0, am_R 32 i0), (1, am_I v1), (2, am_I v2)], ([], (z, x)))) rfl (by decide) (fun c_3 => ?_) (fun c_3 => ?_)
  · refine to_gd 3 64 (c := am_inB v1 5 = true) (pc' := 65) (a' := ([(0, am_R 32 i0), (1, am_I v1), (2, am_I v2)], ([am_I (xA x 49 0 (Int32.toNatClampNeg v1))], (z, x)))) rfl rfl (fun c_4 => ?_)
    exact to_rt 1 (r := ((xA x 49 0 (Int32.toNatClampNeg v1)), x)) rfl
  refine to_si 2 (x := v2) (c := (2 : Int32)) (t := 66) (a' := ([(0, am_R 32 i0), (1, am_I v1), (2, am_I v2)], ([], (z, x)))) rfl (by decide) (fun c_5 => ?_) (fun c_5 => ?_)
  · refine to_gd 3 71 (c := am_inB v1 5 = true) (pc' := 72) (a' := ([(0, am_R 32 i0), (1, am_I v1), (2, am_I v2)], ([am_I (xA x 50 0 (Int32.toNatClampNeg v1))], (z, x)))) rfl rfl (fun c_6 => ?_)
    exact to_rt 1 (r := ((xA x 50 0 (Int32.toNatClampNeg v1)), x)) rfl
  refine to_si 2 (x := v2) (c := (3 : Int32)) (t := 73) (a' := ([(0, am_R 32 i0), (1, am_I v1), (2, am_I v2)], ([], (z, x)))) rfl (by decide) (fun c_7 => ?_) (fun c_7 => ?_)
  · refine to_gd 3 78 (c := am_inB v1 5 = true) (pc' := 79) (a' := ([(0, am_R 32 i0), (1, am_I v1), (2, am_I v2)], ([am_I (xA x 53 0 (Int32.toNatClampNeg v1))], (z, x)))) rfl rfl (fun c_8 => ?_)
    exact to_rt 1 (r := ((xA x 53 0 (Int32.toNatClampNeg v1)), x)) rfl
  refine to_si 2 (x := v2) (c := (4 : Int32)) (t := 80) (a' := ([(0, am_R 32 i0), (1, am_I v1), (2, am_I v2)], ([], (z, x)))) rfl (by decide) (fun c_9 => ?_) (fun c_9 => ?_)
  · refine to_fg [0, 1, 2] (lv' := [(0, am_R 32 i0), (1, am_I v1), (2, am_I v2)]) rfl ?_
    exact tb_X9_personNow_80 (by omega)  i0 v1 v2 x
  refine to_si 2 (x := v2) (c := (5 : Int32)) (t := 80) (a' := ([(0, am_R 32 i0), (1, am_I v1), (2, am_I v2)], ([], (z, x)))) rfl (by decide) (fun c_10 => ?_) (fun c_10 => ?_)
  · refine to_fg [0, 1, 2] (lv' := [(0, am_R 32 i0), (1, am_I v1), (2, am_I v2)]) rfl ?_
    exact tb_X9_personNow_80 (by omega)  i0 v1 v2 x
  refine to_si 2 (x := v2) (c := (6 : Int32)) (t := 80) (a' := ([(0, am_R 32 i0), (1, am_I v1), (2, am_I v2)], ([], (z, x)))) rfl (by decide) (fun c_11 => ?_) (fun c_11 => ?_)
  · refine to_fg [0, 1, 2] (lv' := [(0, am_R 32 i0), (1, am_I v1), (2, am_I v2)]) rfl ?_
    exact tb_X9_personNow_80 (by omega)  i0 v1 v2 x
  refine to_si 2 (x := v2) (c := (7 : Int32)) (t := 91) (a' := ([(0, am_R 32 i0), (1, am_I v1), (2, am_I v2)], ([], (z, x)))) rfl (by decide) (fun c_12 => ?_) (fun c_12 => ?_)
  · refine to_gd 3 96 (c := am_inB v1 5 = true) (pc' := 97) (a' := ([(0, am_R 32 i0), (1, am_I v1), (2, am_I v2)], ([am_I (xA x 53 0 (Int32.toNatClampNeg v1))], (z, x)))) rfl rfl (fun c_13 => ?_)
    refine to_if 1 (c := ¬ (xA x 53 0 (Int32.toNatClampNeg v1)) = 0) (p1 := 104) (p2 := 100) (a' := ([(0, am_R 32 i0), (1, am_I v1), (2, am_I v2)], ([], (z, x)))) rfl (fun c_14 => ?_) (fun c_14 => ?_)
    · refine to_go 4 (pc' := 111) (a' := ([(0, am_R 32 i0), (1, am_I v1), (2, am_I v2)], ([am_I v1, am_I (12 : Int32), am_R 54 0], (z, x)))) rfl ?_
      refine to_gd 1 112 (c := am_inB ((12 : Int32) * v1) 60 = true) (pc' := 113) (a' := ([(0, am_R 32 i0), (1, am_I v1), (2, am_I v2)], ([am_I (xA x 54 0 (Int32.toNatClampNeg ((12 : Int32) * v1)))], (z, x)))) rfl rfl (fun c_15 => ?_)
      refine to_gk 1 114 (c := ¬ (4 : Int32) = 0) (pc' := 115) (a' := ([(0, am_R 32 i0), (1, am_I v1), (2, am_I v2)], ([am_I ((xA x 54 0 (Int32.toNatClampNeg ((12 : Int32) * v1))) / (4 : Int32))], (z, x)))) rfl rfl (by decide) ?_
      exact to_rt 1 (r := (((xA x 54 0 (Int32.toNatClampNeg ((12 : Int32) * v1))) / (4 : Int32)), x)) rfl
    · exact to_rt 3 (r := ((-1 : Int32), x)) rfl
  refine to_si 2 (x := v2) (c := (8 : Int32)) (t := 116) (a' := ([(0, am_R 32 i0), (1, am_I v1), (2, am_I v2)], ([], (z, x)))) rfl (by decide) (fun c_16 => ?_) (fun c_16 => ?_)
  · refine to_gd 3 121 (c := am_inB v1 5 = true) (pc' := 122) (a' := ([(0, am_R 32 i0), (1, am_I v1), (2, am_I v2)], ([am_I (xA x 51 0 (Int32.toNatClampNeg v1))], (z, x)))) rfl rfl (fun c_17 => ?_)
    exact to_rt 1 (r := ((xA x 51 0 (Int32.toNatClampNeg v1)), x)) rfl
  refine to_sd 2 (x := v2) (cs := [0, 1, 2, 3, 4, 5, 6, 7, 8]) (a' := ([(0, am_R 32 i0), (1, am_I v1), (2, am_I v2)], ([], (z, x)))) rfl (by decide) (List.forall_mem_cons.mpr ⟨c_1, List.forall_mem_cons.mpr ⟨c_3, List.forall_mem_cons.mpr ⟨c_5, List.forall_mem_cons.mpr ⟨c_7, List.forall_mem_cons.mpr ⟨c_9, List.forall_mem_cons.mpr ⟨c_10, List.forall_mem_cons.mpr ⟨c_11, List.forall_mem_cons.mpr ⟨c_12, List.forall_mem_cons.mpr ⟨c_16, fun _ h => absurd h List.not_mem_nil⟩⟩⟩⟩⟩⟩⟩⟩⟩) ?_
  refine to_gd 3 128 (c := am_inB v1 5 = true) (pc' := 129) (a' := ([(0, am_R 32 i0), (1, am_I v1), (2, am_I v2)], ([am_I (xA x 52 0 (Int32.toNatClampNeg v1))], (z, x)))) rfl rfl (fun c_18 => ?_)
  exact to_rt 1 (r := ((xA x 52 0 (Int32.toNatClampNeg v1)), x)) rfl
def f_X9_about (n : Nat) (i0 : Nat) (v1 : Int32) (v2 : Int32) (x : am_X) : Option (Int32 × am_X) := (f_X9_isThere n i0 v1 x).bind fun q1 => if ¬ q1.1 = 0 then ((f_X9_within n v2 (0 : Int32) (9 : Int32) q1.2).bind fun q3 => if q3.1 = 0 then (some ((-102 : Int32), q3.2)) else ((f_X9_personNow n i0 v1 v2 q3.2).bind fun q5 => some (q5.1, q5.2))) else (some ((-101 : Int32), q1.2))
theorem t_X9_about {n : Nat} {d : Nat} {i0 : Nat} {v1 : Int32} {v2 : Int32} {x z : am_X} {q : Int32 × am_X} (hd : 4 ≤ d) (h : f_X9_about n i0 v1 v2 x = some q) : am_Ev am_PR d 129 [am_R 32 i0, am_I v1, am_I v2] (z, x) (cvI1 z q) := by
  obtain ⟨d, rfl⟩ : ∃ e, d = e + 1 := ⟨d - 1, by omega⟩
  refine to_ev (P := (am_tab pX9_about)) rfl (lv := [(0, am_R 32 i0), (1, am_I v1), (2, am_I v2)]) rfl ?_ q h
  unfold f_X9_about
  refine to_cl 3 (lv := [(0, am_R 32 i0), (1, am_I v1), (2, am_I v2)]) (st := []) (M := (z, x)) (cb := (cvI1 z)) rfl (fun q hq => t_X9_isThere (by omega) hq) (fun q1 => ?_)
  refine to_if 1 (c := ¬ q1.1 = 0) (p1 := 13) (p2 := 8) (a' := ([(0, am_R 32 i0), (1, am_I v1), (2, am_I v2)], ([], (z, q1.2)))) rfl (fun c_2 => ?_) (fun c_2 => ?_)
  · refine to_cl 4 (lv := [(0, am_R 32 i0), (1, am_I v1), (2, am_I v2)]) (st := []) (M := (z, q1.2)) (cb := (cvI1 z)) rfl (fun q hq => t_X9_within (by omega) hq) (fun q3 => ?_)
    refine to_if 1 (c := q3.1 = 0) (p1 := 32) (p2 := 23) (a' := ([(0, am_R 32 i0), (1, am_I v1), (2, am_I v2)], ([], (z, q3.2)))) rfl (fun c_4 => ?_) (fun c_4 => ?_)
    · exact to_rt 2 (r := ((-102 : Int32), q3.2)) rfl
    · refine to_cl 4 (lv := [(0, am_R 32 i0), (1, am_I v1), (2, am_I v2)]) (st := []) (M := (z, q3.2)) (cb := (cvI1 z)) rfl (fun q hq => t_X9_personNow (by omega) hq) (fun q5 => ?_)
      exact to_rt 2 (r := (q5.1, q5.2)) rfl
  · exact to_rt 3 (r := ((-101 : Int32), q1.2)) rfl
def f_X9_as (n : Nat) (i0 : Nat) (v1 : Int32) (v2 : Int32) (x : am_X) : Option (Int32 × am_X) := (f_X9_isThere n i0 v1 x).bind fun q1 => if ¬ q1.1 = 0 then ((f_X9_within n v2 (0 : Int32) (4 : Int32) q1.2).bind fun q3 => if ¬ q3.1 = 0 then (if am_inB v1 5 = true then (if v2 = 0 then (some (v1, q3.2)) else (if (xA q3.2 48 0 (Int32.toNatClampNeg v1)) = v2 then (some (v1, q3.2)) else (if ¬ v2 = (3 : Int32) then (some ((-1 : Int32), q3.2)) else (if ¬ (xA q3.2 48 0 (Int32.toNatClampNeg v1)) = (4 : Int32) then (some ((-1 : Int32), q3.2)) else (some (v1, q3.2)))))) else none) else (some ((-102 : Int32), q3.2))) else (some ((-101 : Int32), q1.2))
theorem t_X9_as {n : Nat} {d : Nat} {i0 : Nat} {v1 : Int32} {v2 : Int32} {x z : am_X} {q : Int32 × am_X} (hd : 3 ≤ d) (h : f_X9_as n i0 v1 v2 x = some q) : am_Ev am_PR d 130 [am_R 32 i0, am_I v1, am_I v2] (z, x) (cvI1 z q) := by
  obtain ⟨d, rfl⟩ : ∃ e, d = e + 1 := ⟨d - 1, by omega⟩
  refine to_ev (P := (am_tab pX9_as)) rfl (lv := [(0, am_R 32 i0), (1, am_I v1), (2, am_I v2)]) rfl ?_ q h
  unfold f_X9_as
  refine to_cl 3 (lv := [(0, am_R 32 i0), (1, am_I v1), (2, am_I v2)]) (st := []) (M := (z, x)) (cb := (cvI1 z)) rfl (fun q hq => t_X9_isThere (by omega) hq) (fun q1 => ?_)
  refine to_if 1 (c := ¬ q1.1 = 0) (p1 := 11) (p2 := 8) (a' := ([(0, am_R 32 i0), (1, am_I v1), (2, am_I v2)], ([], (z, q1.2)))) rfl (fun c_2 => ?_) (fun c_2 => ?_)
  · refine to_cl 4 (lv := [(0, am_R 32 i0), (1, am_I v1), (2, am_I v2)]) (st := []) (M := (z, q1.2)) (cb := (cvI1 z)) rfl (fun q hq => t_X9_within (by omega) hq) (fun q3 => ?_)
    refine to_if 1 (c := ¬ q3.1 = 0) (p1 := 23) (p2 := 20) (a' := ([(0, am_R 32 i0), (1, am_I v1), (2, am_I v2)], ([], (z, q3.2)))) rfl (fun c_4 => ?_) (fun c_4 => ?_)
    · refine to_gd 3 28 (c := am_inB v1 5 = true) (pc' := 29) (a' := ([(0, am_R 32 i0), (1, am_I v1), (2, am_I v2)], ([am_I (xA q3.2 48 0 (Int32.toNatClampNeg v1))], (z, q3.2)))) rfl rfl (fun c_5 => ?_)
      refine to_if 3 (c := v2 = 0) (p1 := 49) (p2 := 34) (a' := ([(3, am_I (xA q3.2 48 0 (Int32.toNatClampNeg v1))), (0, am_R 32 i0), (1, am_I v1), (2, am_I v2)], ([], (z, q3.2)))) rfl (fun c_6 => ?_) (fun c_6 => ?_)
      · exact to_rt 3 (r := (v1, q3.2)) rfl
      · refine to_if 3 (c := (xA q3.2 48 0 (Int32.toNatClampNeg v1)) = v2) (p1 := 49) (p2 := 39) (a' := ([(3, am_I (xA q3.2 48 0 (Int32.toNatClampNeg v1))), (0, am_R 32 i0), (1, am_I v1), (2, am_I v2)], ([], (z, q3.2)))) rfl (fun c_7 => ?_) (fun c_7 => ?_)
        · exact to_rt 3 (r := (v1, q3.2)) rfl
        · refine to_if 3 (c := ¬ v2 = (3 : Int32)) (p1 := 53) (p2 := 44) (a' := ([(3, am_I (xA q3.2 48 0 (Int32.toNatClampNeg v1))), (0, am_R 32 i0), (1, am_I v1), (2, am_I v2)], ([], (z, q3.2)))) rfl (fun c_8 => ?_) (fun c_8 => ?_)
          · exact to_rt 2 (r := ((-1 : Int32), q3.2)) rfl
          · refine to_if 3 (c := ¬ (xA q3.2 48 0 (Int32.toNatClampNeg v1)) = (4 : Int32)) (p1 := 53) (p2 := 49) (a' := ([(3, am_I (xA q3.2 48 0 (Int32.toNatClampNeg v1))), (0, am_R 32 i0), (1, am_I v1), (2, am_I v2)], ([], (z, q3.2)))) rfl (fun c_9 => ?_) (fun c_9 => ?_)
            · exact to_rt 2 (r := ((-1 : Int32), q3.2)) rfl
            · exact to_rt 3 (r := (v1, q3.2)) rfl
    · exact to_rt 2 (r := ((-102 : Int32), q3.2)) rfl
  · exact to_rt 2 (r := ((-101 : Int32), q1.2)) rfl
def f_X9_isAct (n : Nat) (v0 : Int32) (x : am_X) : Option (Int32 × am_X) := (f_X9_within n v0 (0 : Int32) (2 : Int32) x).bind fun q1 => if ¬ q1.1 = 0 then (some ((1 : Int32), q1.2)) else ((f_X9_within n v0 (10 : Int32) (13 : Int32) q1.2).bind fun q3 => if ¬ q3.1 = 0 then (some ((1 : Int32), q3.2)) else ((f_X9_within n v0 (20 : Int32) (23 : Int32) q3.2).bind fun q5 => if q5.1 = 0 then (some ((0 : Int32), q5.2)) else (some ((1 : Int32), q5.2))))
theorem t_X9_isAct {n : Nat} {d : Nat} {v0 : Int32} {x z : am_X} {q : Int32 × am_X} (hd : 2 ≤ d) (h : f_X9_isAct n v0 x = some q) : am_Ev am_PR d 131 [am_I v0] (z, x) (cvI1 z q) := by
  obtain ⟨d, rfl⟩ : ∃ e, d = e + 1 := ⟨d - 1, by omega⟩
  refine to_ev (P := (am_tab pX9_isAct)) rfl (lv := [(0, am_I v0)]) rfl ?_ q h
  unfold f_X9_isAct
  refine to_cl 4 (lv := [(0, am_I v0)]) (st := []) (M := (z, x)) (cb := (cvI1 z)) rfl (fun q hq => t_X9_within (by omega) hq) (fun q1 => ?_)
  refine to_if 1 (c := ¬ q1.1 = 0) (p1 := 31) (p2 := 9) (a' := ([(0, am_I v0)], ([], (z, q1.2)))) rfl (fun c_2 => ?_) (fun c_2 => ?_)
  · exact to_rk 2 36 (c := am_bz (1 : Int32) = true) (r := ((1 : Int32), q1.2)) rfl rfl (by decide)
  · refine to_cl 4 (lv := [(0, am_I v0)]) (st := []) (M := (z, q1.2)) (cb := (cvI1 z)) rfl (fun q hq => t_X9_within (by omega) hq) (fun q3 => ?_)
    refine to_if 1 (c := ¬ q3.1 = 0) (p1 := 31) (p2 := 20) (a' := ([(0, am_I v0)], ([], (z, q3.2)))) rfl (fun c_4 => ?_) (fun c_4 => ?_)
    · exact to_rk 2 36 (c := am_bz (1 : Int32) = true) (r := ((1 : Int32), q3.2)) rfl rfl (by decide)
    · refine to_cl 4 (lv := [(0, am_I v0)]) (st := []) (M := (z, q3.2)) (cb := (cvI1 z)) rfl (fun q hq => t_X9_within (by omega) hq) (fun q5 => ?_)
      refine to_if 1 (c := q5.1 = 0) (p1 := 35) (p2 := 31) (a' := ([(0, am_I v0)], ([], (z, q5.2)))) rfl (fun c_6 => ?_) (fun c_6 => ?_)
      · exact to_rk 1 36 (c := am_bz (0 : Int32) = true) (r := ((0 : Int32), q5.2)) rfl rfl (by decide)
      · exact to_rk 2 36 (c := am_bz (1 : Int32) = true) (r := ((1 : Int32), q5.2)) rfl rfl (by decide)
def f_X9_needs (n : Nat) (v0 : Int32) (v1 : Int32) (x : am_X) : Option (Int32 × am_X) := if ¬ v0 = (1 : Int32) then (some (v1, x)) else (if v1 ≤ (1 : Int32) then (some (v1, x)) else (some ((v1 - (1 : Int32)), x)))
theorem t_X9_needs {n : Nat} {d : Nat} {v0 : Int32} {v1 : Int32} {x z : am_X} {q : Int32 × am_X} (hd : 1 ≤ d) (h : f_X9_needs n v0 v1 x = some q) : am_Ev am_PR d 132 [am_I v0, am_I v1] (z, x) (cvI1 z q) := by
  obtain ⟨d, rfl⟩ : ∃ e, d = e + 1 := ⟨d - 1, by omega⟩
  refine to_ev (P := (am_tab pX9_needs)) rfl (lv := [(0, am_I v0), (1, am_I v1)]) rfl ?_ q h
  unfold f_X9_needs
  refine to_if 3 (c := ¬ v0 = (1 : Int32)) (p1 := 16) (p2 := 5) (a' := ([(0, am_I v0), (1, am_I v1)], ([], (z, x)))) rfl (fun c_1 => ?_) (fun c_1 => ?_)
  · exact to_rt 2 (r := (v1, x)) rfl
  · refine to_if 3 (c := v1 ≤ (1 : Int32)) (p1 := 16) (p2 := 10) (a' := ([(0, am_I v0), (1, am_I v1)], ([], (z, x)))) rfl (fun c_2 => ?_) (fun c_2 => ?_)
    · exact to_rt 2 (r := (v1, x)) rfl
    · refine to_go 4 (pc' := 17) (a' := ([(0, am_I v0), (1, am_I v1)], ([am_I (v1 - (1 : Int32))], (z, x)))) rfl ?_
      exact to_rt 1 (r := ((v1 - (1 : Int32)), x)) rfl
def f_X9_gets (n : Nat) (i0 : Nat) (v1 : Int32) (v2 : Int32) (x : am_X) : Option (Int32 × am_X) := if am_inB v2 4 = true then (if am_inB v1 5 = true then (if (xA x 48 0 (Int32.toNatClampNeg v1)) = (3 : Int32) then (some (((xA x 44 0 (Int32.toNatClampNeg v2)) + (1 : Int32)), x)) else (if am_inB v1 5 = true then (if ¬ (xA x 48 0 (Int32.toNatClampNeg v1)) = (4 : Int32) then (some (((xA x 44 0 (Int32.toNatClampNeg v2)) + (0 : Int32)), x)) else (some (((xA x 44 0 (Int32.toNatClampNeg v2)) + (1 : Int32)), x))) else none)) else none) else none
theorem t_X9_gets {n : Nat} {d : Nat} {i0 : Nat} {v1 : Int32} {v2 : Int32} {x z : am_X} {q : Int32 × am_X} (hd : 1 ≤ d) (h : f_X9_gets n i0 v1 v2 x = some q) : am_Ev am_PR d 133 [am_R 32 i0, am_I v1, am_I v2] (z, x) (cvI1 z q) := by
  obtain ⟨d, rfl⟩ : ∃ e, d = e + 1 := ⟨d - 1, by omega⟩
  refine to_ev (P := (am_tab pX9_gets)) rfl (lv := [(0, am_R 32 i0), (1, am_I v1), (2, am_I v2)]) rfl ?_ q h
  unfold f_X9_gets
  refine to_gd 3 5 (c := am_inB v2 4 = true) (pc' := 6) (a' := ([(0, am_R 32 i0), (1, am_I v1), (2, am_I v2)], ([am_I (xA x 44 0 (Int32.toNatClampNeg v2))], (z, x)))) rfl rfl (fun c_1 => ?_)
  refine to_gd 3 11 (c := am_inB v1 5 = true) (pc' := 12) (a' := ([(0, am_R 32 i0), (1, am_I v1), (2, am_I v2)], ([am_I (xA x 48 0 (Int32.toNatClampNeg v1)), am_I (xA x 44 0 (Int32.toNatClampNeg v2))], (z, x)))) rfl rfl (fun c_2 => ?_)
  refine to_if 2 (c := (xA x 48 0 (Int32.toNatClampNeg v1)) = (3 : Int32)) (p1 := 26) (p2 := 16) (a' := ([(0, am_R 32 i0), (1, am_I v1), (2, am_I v2)], ([am_I (xA x 44 0 (Int32.toNatClampNeg v2))], (z, x)))) rfl (fun c_3 => ?_) (fun c_3 => ?_)
  · exact to_rt 4 (r := (((xA x 44 0 (Int32.toNatClampNeg v2)) + (1 : Int32)), x)) rfl
  · refine to_gd 3 21 (c := am_inB v1 5 = true) (pc' := 22) (a' := ([(0, am_R 32 i0), (1, am_I v1), (2, am_I v2)], ([am_I (xA x 48 0 (Int32.toNatClampNeg v1)), am_I (xA x 44 0 (Int32.toNatClampNeg v2))], (z, x)))) rfl rfl (fun c_4 => ?_)
    refine to_if 2 (c := ¬ (xA x 48 0 (Int32.toNatClampNeg v1)) = (4 : Int32)) (p1 := 30) (p2 := 26) (a' := ([(0, am_R 32 i0), (1, am_I v1), (2, am_I v2)], ([am_I (xA x 44 0 (Int32.toNatClampNeg v2))], (z, x)))) rfl (fun c_5 => ?_) (fun c_5 => ?_)
    · exact to_rt 3 (r := (((xA x 44 0 (Int32.toNatClampNeg v2)) + (0 : Int32)), x)) rfl
    · exact to_rt 4 (r := (((xA x 44 0 (Int32.toNatClampNeg v2)) + (1 : Int32)), x)) rfl
def f_X9_isCovered (n : Nat) (i0 : Nat) (v1 : Int32) (v2 : Int32) (v3 : Int32) (x : am_X) : Option (Int32 × am_X) := if am_inB v1 5 = true then (if ¬ (xA x 50 0 (Int32.toNatClampNeg v1)) = 0 then (some ((0 : Int32), x)) else (if am_inB v2 4 = true then ((f_X9_countOf n i0 v1 (xA x 45 0 (Int32.toNatClampNeg v2)) x).bind fun q4 => if am_inB v1 5 = true then ((f_X9_needs n (xA q4.2 48 0 (Int32.toNatClampNeg v1)) v3 q4.2).bind fun q6 => if q4.1 < q6.1 then (some ((0 : Int32), q6.2)) else (some ((1 : Int32), q6.2))) else none) else none)) else none
theorem t_X9_isCovered {n : Nat} {d : Nat} {i0 : Nat} {v1 : Int32} {v2 : Int32} {v3 : Int32} {x z : am_X} {q : Int32 × am_X} (hd : 3 ≤ d) (h : f_X9_isCovered n i0 v1 v2 v3 x = some q) : am_Ev am_PR d 134 [am_R 32 i0, am_I v1, am_I v2, am_I v3] (z, x) (cvI1 z q) := by
  obtain ⟨d, rfl⟩ : ∃ e, d = e + 1 := ⟨d - 1, by omega⟩
  refine to_ev (P := (am_tab pX9_isCovered)) rfl (lv := [(0, am_R 32 i0), (1, am_I v1), (2, am_I v2), (3, am_I v3)]) rfl ?_ q h
  unfold f_X9_isCovered
  refine to_gd 3 5 (c := am_inB v1 5 = true) (pc' := 6) (a' := ([(0, am_R 32 i0), (1, am_I v1), (2, am_I v2), (3, am_I v3)], ([am_I (xA x 50 0 (Int32.toNatClampNeg v1))], (z, x)))) rfl rfl (fun c_1 => ?_)
  refine to_if 1 (c := ¬ (xA x 50 0 (Int32.toNatClampNeg v1)) = 0) (p1 := 37) (p2 := 9) (a' := ([(0, am_R 32 i0), (1, am_I v1), (2, am_I v2), (3, am_I v3)], ([], (z, x)))) rfl (fun c_2 => ?_) (fun c_2 => ?_)
  · exact to_rk 1 38 (c := am_bz (0 : Int32) = true) (r := ((0 : Int32), x)) rfl rfl (by decide)
  · refine to_go 4 (pc' := 15) (a' := ([(0, am_R 32 i0), (1, am_I v1), (2, am_I v2), (3, am_I v3)], ([am_R 45 0, am_I v1, am_R 32 i0], (z, x)))) rfl ?_
    refine to_gd 1 16 (c := am_inB v2 4 = true) (pc' := 17) (a' := ([(0, am_R 32 i0), (1, am_I v1), (2, am_I v2), (3, am_I v3)], ([am_I (xA x 45 0 (Int32.toNatClampNeg v2)), am_I v1, am_R 32 i0], (z, x)))) rfl rfl (fun c_3 => ?_)
    refine to_cl 1 (lv := [(0, am_R 32 i0), (1, am_I v1), (2, am_I v2), (3, am_I v3)]) (st := []) (M := (z, x)) (cb := (cvI1 z)) rfl (fun q hq => t_X9_countOf (by omega) hq) (fun q4 => ?_)
    refine to_gd 3 25 (c := am_inB v1 5 = true) (pc' := 26) (a' := ([(0, am_R 32 i0), (1, am_I v1), (2, am_I v2), (3, am_I v3)], ([am_I (xA q4.2 48 0 (Int32.toNatClampNeg v1)), am_I q4.1], (z, q4.2)))) rfl rfl (fun c_5 => ?_)
    refine to_cl 2 (lv := [(0, am_R 32 i0), (1, am_I v1), (2, am_I v2), (3, am_I v3)]) (st := [am_I q4.1]) (M := (z, q4.2)) (cb := (cvI1 z)) rfl (fun q hq => t_X9_needs (by omega) hq) (fun q6 => ?_)
    refine to_if 1 (c := q4.1 < q6.1) (p1 := 37) (p2 := 33) (a' := ([(0, am_R 32 i0), (1, am_I v1), (2, am_I v2), (3, am_I v3)], ([], (z, q6.2)))) rfl (fun c_7 => ?_) (fun c_7 => ?_)
    · exact to_rk 1 38 (c := am_bz (0 : Int32) = true) (r := ((0 : Int32), q6.2)) rfl rfl (by decide)
    · exact to_rk 2 38 (c := am_bz (1 : Int32) = true) (r := ((1 : Int32), q6.2)) rfl rfl (by decide)
def f_X9_mayDo (n : Nat) (i0 : Nat) (v1 : Int32) (v2 : Int32) (x : am_X) : Option (Int32 × am_X) := if v2 < (20 : Int32) then (if v2 < (10 : Int32) then (some ((1 : Int32), x)) else (if am_inB (v2 - (10 : Int32)) 4 = true then ((f_X9_isCovered n i0 v1 (v2 - (10 : Int32)) (xA x 43 0 (Int32.toNatClampNeg (v2 - (10 : Int32)))) x).bind fun q4 => if q4.1 = 0 then (some ((0 : Int32), q4.2)) else (some ((1 : Int32), q4.2))) else none)) else (if am_inB v1 5 = true then (if ¬ (xA x 50 0 (Int32.toNatClampNeg v1)) = 0 then (some ((0 : Int32), x)) else (some ((1 : Int32), x))) else none)
theorem t_X9_mayDo {n : Nat} {d : Nat} {i0 : Nat} {v1 : Int32} {v2 : Int32} {x z : am_X} {q : Int32 × am_X} (hd : 4 ≤ d) (h : f_X9_mayDo n i0 v1 v2 x = some q) : am_Ev am_PR d 135 [am_R 32 i0, am_I v1, am_I v2] (z, x) (cvI1 z q) := by
  obtain ⟨d, rfl⟩ : ∃ e, d = e + 1 := ⟨d - 1, by omega⟩
  refine to_ev (P := (am_tab pX9_mayDo)) rfl (lv := [(0, am_R 32 i0), (1, am_I v1), (2, am_I v2)]) rfl ?_ q h
  unfold f_X9_mayDo
  refine to_if 3 (c := v2 < (20 : Int32)) (p1 := 21) (p2 := 6) (a' := ([(0, am_R 32 i0), (1, am_I v1), (2, am_I v2)], ([], (z, x)))) rfl (fun c_1 => ?_) (fun c_1 => ?_)
  · refine to_if 3 (c := v2 < (10 : Int32)) (p1 := 48) (p2 := 27) (a' := ([(0, am_R 32 i0), (1, am_I v1), (2, am_I v2)], ([], (z, x)))) rfl (fun c_2 => ?_) (fun c_2 => ?_)
    · exact to_rk 2 53 (c := am_bz (1 : Int32) = true) (r := ((1 : Int32), x)) rfl rfl (by decide)
    · refine to_go 4 (pc' := 32) (a' := ([(0, am_R 32 i0), (1, am_I v1), (2, am_I v2)], ([am_I (10 : Int32), am_I v2, am_I v1, am_R 32 i0], (z, x)))) rfl ?_
      refine to_go 4 (pc' := 38) (a' := ([(0, am_R 32 i0), (1, am_I v1), (2, am_I v2)], ([am_I v2, am_R 43 0, am_I (v2 - (10 : Int32)), am_I v1, am_R 32 i0], (z, x)))) rfl ?_
      refine to_gd 2 41 (c := am_inB (v2 - (10 : Int32)) 4 = true) (pc' := 42) (a' := ([(0, am_R 32 i0), (1, am_I v1), (2, am_I v2)], ([am_I (xA x 43 0 (Int32.toNatClampNeg (v2 - (10 : Int32)))), am_I (v2 - (10 : Int32)), am_I v1, am_R 32 i0], (z, x)))) rfl rfl (fun c_3 => ?_)
      refine to_cl 1 (lv := [(0, am_R 32 i0), (1, am_I v1), (2, am_I v2)]) (st := []) (M := (z, x)) (cb := (cvI1 z)) rfl (fun q hq => t_X9_isCovered (by omega) hq) (fun q4 => ?_)
      refine to_if 1 (c := q4.1 = 0) (p1 := 52) (p2 := 48) (a' := ([(0, am_R 32 i0), (1, am_I v1), (2, am_I v2)], ([], (z, q4.2)))) rfl (fun c_5 => ?_) (fun c_5 => ?_)
      · exact to_rk 1 53 (c := am_bz (0 : Int32) = true) (r := ((0 : Int32), q4.2)) rfl rfl (by decide)
      · exact to_rk 2 53 (c := am_bz (1 : Int32) = true) (r := ((1 : Int32), q4.2)) rfl rfl (by decide)
  · refine to_gd 3 11 (c := am_inB v1 5 = true) (pc' := 12) (a' := ([(0, am_R 32 i0), (1, am_I v1), (2, am_I v2)], ([am_I (xA x 50 0 (Int32.toNatClampNeg v1))], (z, x)))) rfl rfl (fun c_6 => ?_)
    refine to_if 1 (c := ¬ (xA x 50 0 (Int32.toNatClampNeg v1)) = 0) (p1 := 19) (p2 := 15) (a' := ([(0, am_R 32 i0), (1, am_I v1), (2, am_I v2)], ([], (z, x)))) rfl (fun c_7 => ?_) (fun c_7 => ?_)
    · exact to_rk 1 20 (c := am_bz (0 : Int32) = true) (r := ((0 : Int32), x)) rfl rfl (by decide)
    · exact to_rk 2 20 (c := am_bz (1 : Int32) = true) (r := ((1 : Int32), x)) rfl rfl (by decide)
