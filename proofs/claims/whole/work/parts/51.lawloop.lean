/-! the law: its loop, by the number of calls left -/
theorem ll_and31 (x : Int32) : ∃ j : Nat, j < 32 ∧ x &&& 31 = nI j := by
  have h : x.toBitVec.toNat &&& 31 < 32 := Nat.lt_of_le_of_lt Nat.and_le_right (by decide)
  refine ⟨x.toBitVec.toNat &&& 31, h, ?_⟩
  apply Int32.toBitVec_inj.mp
  apply BitVec.eq_of_toNat_eq
  show (x.toBitVec &&& (31 : Int32).toBitVec).toNat = (BitVec.ofNat 32 (x.toBitVec.toNat &&& 31)).toNat
  rw [BitVec.toNat_and, BitVec.toNat_ofNat, Nat.mod_eq_of_lt (Nat.lt_trans h (by decide))]
  rfl
theorem ll_in {L j : Nat} (hL : L ≤ 256) (h : j < L) : am_inB (nI j) L = true := by
  unfold am_inB
  rw [nI_toInt (by omega), Bool.and_eq_true, decide_eq_true_eq, decide_eq_true_eq]
  omega
theorem ll_sw : ∀ j : Nat, j < 32 → am_sw 0 [152, 175, 188, 201, 214, 247, 270, 303, 336, 369, 402, 415, 458, 491, 504, 547, 580, 603, 626, 649, 662, 675, 718, 731, 744, 767] 781 (nI j) ∈ [152, 175, 188, 201, 214, 247, 270, 303, 336, 369, 402, 415, 458, 491, 504, 547, 580, 603, 626, 649, 662, 675, 718, 731, 744, 767, 781] := by decide +kernel
section LL
variable {xs : Nat → Int32} {L : Nat}
theorem ll_case {n tm i t : Nat} {x z : am_X} (hn : 1000000 ≤ n) (hL : L ≤ 256) (hi : i + 4 ≤ L) (ht : tm < 1000) (hk : ∀ i, xK x i < 5) (h : Rel tm x z) (hc : t ∈ [152, 175, 188, 201, 214, 247, 270, 303, 336, 369, 402, 415, 458, 491, 504, 547, 580, 603, 626, 649, 662, 675, 718, 731, 744, 767, 781]) : ∃ x' z', Rel (tm + 1) x' z' ∧ (∀ i, xK x' i < 5) ∧ (∀ r : am_Q, am_At am_PR 40 (pL xs L) 781 (lvL (nI i), ([], (x', z'))) r → am_At am_PR 40 (pL xs L) t (lvL (nI i), ([], (x, z))) r) := by
  have h1 : am_inB (nI i + (1 : Int32)) L = true := by rw [nI_1]; exact ll_in hL (by omega)
  have h2 : am_inB (nI i + (2 : Int32)) L = true := by rw [show nI i + (2 : Int32) = nI (i + 2) from nI_add i 2]; exact ll_in hL (by omega)
  have h3 : am_inB (nI i + (3 : Int32)) L = true := by rw [show nI i + (3 : Int32) = nI (i + 3) from nI_add i 3]; exact ll_in hL (by omega)
  simp only [List.mem_cons, List.not_mem_nil, or_false] at hc
  rcases hc with rfl | rfl | rfl | rfl | rfl | rfl | rfl | rfl | rfl | rfl | rfl | rfl | rfl | rfl | rfl | rfl | rfl | rfl | rfl | rfl | rfl | rfl | rfl | rfl | rfl | rfl | rfl
  · exact lc_0 hn h1 ht hk h
  · exact lc_1 hn ht hk h
  · exact lc_2 hn ht hk h
  · exact lc_3 hn ht hk h
  · exact lc_4 hn h1 h2 ht hk h
  · exact lc_5 hn h1 ht hk h
  · exact lc_6 hn h1 h2 ht hk h
  · exact lc_7 hn h1 h2 ht hk h
  · exact lc_8 hn h1 h2 ht hk h
  · exact lc_9 hn h1 h2 ht hk h
  · exact lc_10 hn ht hk h
  · exact lc_11 hn h1 h2 h3 ht hk h
  · exact lc_12 hn h1 h2 ht hk h
  · exact lc_13 hn ht hk h
  · exact lc_14 hn h1 h2 h3 ht hk h
  · exact lc_15 hn h1 h2 ht hk h
  · exact lc_16 hn h1 ht hk h
  · exact lc_17 hn h1 ht hk h
  · exact lc_18 hn h1 ht hk h
  · exact lc_19 hn ht hk h
  · exact lc_20 hn ht hk h
  · exact lc_21 hn h1 h2 h3 ht hk h
  · exact lc_22 hn ht hk h
  · exact lc_23 hn ht hk h
  · exact lc_24 hn h1 ht hk h
  · exact lc_25 hn ht hk h
  · exact ⟨x, z, h.up ht, hk, fun r K => K⟩
theorem ll_cmp {i : Nat} (hL : L ≤ 256) (hi : i ≤ 256 + 4) : nI L - (4 : Int32) < nI i ↔ L < i + 4 := by
  have e1 : (nI L - (4 : Int32)).toInt = (L : Int) - 4 := by
    rw [Int32.toInt_sub, nI_toInt (by omega)]
    show ((L : Int) - 4).bmod (2 ^ 32) = _
    rw [Int.bmod_def]
    omega
  rw [Int32.lt_iff_toInt_lt, e1, nI_toInt (by omega)]
  omega
theorem ll_exit {i : Nat} {x z : am_X} (hL : L ≤ 256) (hc : L < i + 4) (hi : i ≤ 256 + 4) : am_At am_PR 40 (pL xs L) 18 (lvL (nI i), ([], (x, z))) (some (am_I 1), (x, z)) := by
  refine am_s1 pr_18 rfl ?_
  refine am_s1 pr_19 rfl ?_
  refine am_s1 pr_20 rfl ?_
  refine am_s1 pr_21 rfl ?_
  refine am_s1 pr_22 rfl ?_
  show am_At am_PR 40 (pL xs L) 23 (lvL (nI i), ([am_I (nI L - 4), am_I (nI i)], (x, z))) _
  refine am_s1 (pc' := 787) (a' := (lvL (nI i), ([], (x, z)))) pr_23 (by
    show (some (Sum.inl ((if nI L - (4 : Int32) < nI i then 787 else 26), (lvL (nI i), ([], (x, z))))) : Option am_Z) = _
    rw [if_pos ((ll_cmp hL hi).mpr hc)]) ?_
  refine am_s1 pr_787 rfl ?_
  exact am_rt 1 (by unfold am_run; rw [pr_788]; rfl)
theorem ll_enter {i j t : Nat} {x z : am_X} {r : am_Q} (hL : L ≤ 256) (hi : i + 4 ≤ L) (hi2 : i ≤ 256 + 4) (ej : xs (nI i).toNatClampNeg &&& 31 = nI j) (et : am_sw 0 [152, 175, 188, 201, 214, 247, 270, 303, 336, 369, 402, 415, 458, 491, 504, 547, 580, 603, 626, 649, 662, 675, 718, 731, 744, 767] 781 (nI j) = t) (K : am_At am_PR 40 (pL xs L) t (lvL (nI i), ([], (x, z))) r) : am_At am_PR 40 (pL xs L) 18 (lvL (nI i), ([], (x, z))) r := by
  refine am_s1 pr_18 rfl ?_
  refine am_s1 pr_19 rfl ?_
  refine am_s1 pr_20 rfl ?_
  refine am_s1 pr_21 rfl ?_
  refine am_s1 pr_22 rfl ?_
  show am_At am_PR 40 (pL xs L) 23 (lvL (nI i), ([am_I (nI L - 4), am_I (nI i)], (x, z))) _
  refine am_s1 (pc' := 26) (a' := (lvL (nI i), ([], (x, z)))) pr_23 (by
    show (some (Sum.inl ((if nI L - (4 : Int32) < nI i then 787 else 26), (lvL (nI i), ([], (x, z))))) : Option am_Z) = _
    rw [if_neg (fun h => absurd ((ll_cmp hL hi2).mp h) (by omega))]) ?_
  refine am_s1 pr_26 rfl ?_
  refine am_s1 pr_27 rfl ?_
  refine am_g1 pr_28 (ll_in hL (by omega)) op_si_at ?_
  refine am_s1 pr_29 rfl ?_
  refine am_s1 pr_31 rfl ?_
  show am_At am_PR 40 (pL xs L) 32 (lvL (nI i), ([am_I (xs (nI i).toNatClampNeg &&& 31)], (x, z))) r
  rw [ej]
  refine am_s1 (pc' := t) (a' := (lvL (nI i), ([], (x, z)))) pr_32 (by
    show (some (Sum.inl (am_sw 0 _ 781 (nI j), (lvL (nI i), ([], (x, z))))) : Option am_Z) = _
    rw [et]) K
theorem ll_back {i : Nat} {x z : am_X} {r : am_Q} (K : am_At am_PR 40 (pL xs L) 18 (lvL (nI (i + 4)), ([], (x, z))) r) : am_At am_PR 40 (pL xs L) 781 (lvL (nI i), ([], (x, z))) r := by
  refine am_s1 pr_781 rfl ?_
  refine am_s1 pr_784 rfl ?_
  rw [show nI (i + 4) = nI i + (4 : Int32) from (nI_add i 4).symm] at K
  exact K
theorem ll_loop (hL : L ≤ 256) : ∀ (k i tm : Nat) (x z : am_X), L ≤ i + 4 * k → i ≤ 256 + 4 → 4 * tm ≤ i → (∀ i, xK x i < 5) → Rel tm x z → ∃ M : am_W, am_At am_PR 40 (pL xs L) 18 (lvL (nI i), ([], (x, z))) (some (am_I 1), M) := by
  intro k
  induction k with
  | zero =>
    intro i tm x z h1 h2 h3 hk hR
    refine ⟨(x, z), ?_⟩
    exact ll_exit hL (by omega) h2
  | succ k ih =>
    intro i tm x z h1 h2 h3 hk hR
    by_cases hc : L < i + 4
    · exact ⟨(x, z), ll_exit hL hc h2⟩
    · have hi : i + 4 ≤ L := by omega
      obtain ⟨j, hj, ej⟩ := ll_and31 (xs (nI i).toNatClampNeg)
      obtain ⟨x', z', R1, k1, K1⟩ := ll_case (xs := xs) (n := 1000000) (Nat.le_refl _) hL hi (by omega) hk hR (ll_sw j hj)
      obtain ⟨M, hM⟩ := ih (i + 4) (tm + 1) x' z' (by omega) (by omega) (by omega) k1 R1
      refine ⟨M, ?_⟩
      refine ll_enter hL hi h2 ej rfl (K1 _ ?_)
      exact ll_back hM
end LL
