/-! years: the seed, the draw -/
theorem I32_and31 (m : Nat) : nI m &&& (2147483647 : Int32) = nI (m % 2147483648) := by
  apply Int32.toBitVec_inj.mp
  apply BitVec.eq_of_toNat_eq
  rw [Int32.toBitVec_and, BitVec.toNat_and]
  show (BitVec.ofNat 32 m).toNat &&& 2147483647 = (BitVec.ofNat 32 (m % 2147483648)).toNat
  rw [BitVec.toNat_ofNat, BitVec.toNat_ofNat, show (2147483647 : Nat) = 2 ^ 31 - 1 from rfl, Nat.and_two_pow_sub_one_eq_mod]
  omega
theorem I64_and31 (m : Nat) : lN m &&& (2147483647 : Int64) = lN (m % 2147483648) := by
  apply Int64.toBitVec_inj.mp
  apply BitVec.eq_of_toNat_eq
  rw [Int64.toBitVec_and, BitVec.toNat_and]
  show (BitVec.ofNat 64 m).toNat &&& 2147483647 = (BitVec.ofNat 64 (m % 2147483648)).toNat
  rw [BitVec.toNat_ofNat, BitVec.toNat_ofNat, show (2147483647 : Nat) = 2 ^ 31 - 1 from rfl, Nat.and_two_pow_sub_one_eq_mod]
  omega
theorem yN_add (a b : Nat) : lN a + lN b = lN (a + b) := by
  unfold lN
  exact (Int64.ofNat_add a b).symm
theorem yN_mul (a b : Nat) : lN a * lN b = lN (a * b) := by
  unfold lN
  exact (Int64.ofNat_mul a b).symm
theorem yN_toInt {a : Nat} (h : a < 9223372036854775808) : (lN a).toInt = a := by
  unfold lN
  exact Int64.toInt_ofNat_of_lt h
theorem yN_div {a b : Nat} (ha : a < 9223372036854775808) (hb : b < 9223372036854775808) (h0 : 0 < b) : lN a / lN b = lN (a / b) := by
  apply Int64.toInt_inj.mp
  have h1 := Nat.div_le_self a b
  rw [Int64.toInt_div_of_ne_right, yN_toInt ha, yN_toInt hb, yN_toInt (by omega)]
  · rfl
  · intro e
    have := congrArg Int64.toInt e
    rw [yN_toInt hb] at this
    have e2 : (-1 : Int64).toInt = -1 := rfl
    omega
theorem yN_sub {a b : Nat} (h : b ≤ a) : lN a - lN b = lN (a - b) := by
  exact lN_sub h
theorem yN_i {a : Nat} (h : a < 2147483648) : (lN a).toInt32 = nI a := by
  rw [← nI_l h]
  exact Int32.toInt32_toInt64 _
def sd (a : Nat) : Nat := (1103515245 * a + 12345) % 2147483648
def dA (k : Nat) : Nat := if k < 3 then k else if k < 7 then k + 7 else if k < 11 then k + 13 else 9
theorem dA_ok {k : Nat} (h : dA k ≠ 9) : aOk (dA k) := by
  unfold dA aOk at *
  split
  · omega
  · split
    · omega
    · split
      · omega
      · rw [if_neg (by assumption), if_neg (by assumption), if_neg (by assumption)] at h
        exact absurd rfl h
section SD
variable {n : Nat} {x z : am_X}
theorem S_drawn {t a : Nat} (ha : a < 2147483648) (h : xF x 3 4 t = nI a) : f_X7_drawn n t x = some (nI (sd a / 65536 % 12), sF x 3 4 t (nI (sd a))) := by
  have hs : sd a < 2147483648 := Nat.mod_lt _ (by omega)
  have h1 := Nat.div_le_self (sd a) 65536
  unfold f_X7_drawn
  rw [h, show (1103515245 : Int32) * nI a + 12345 = nI (1103515245 * a + 12345) from by rw [show (1103515245 : Int32) = nI 1103515245 from rfl, show (12345 : Int32) = nI 12345 from rfl, pk_mul, nI_add], I32_and31]
  show some (xF (sF x 3 4 t (nI (sd a))) 3 4 t / 65536 - xF (sF x 3 4 t (nI (sd a))) 3 4 t / 65536 / 12 * 12, sF x 3 4 t (nI (sd a))) = _
  rw [xF_sF, if_pos ⟨rfl, rfl, rfl⟩, show (65536 : Int32) = nI 65536 from rfl, nI_div hs (by omega) (by omega), show (12 : Int32) = nI 12 from rfl, nI_rem (by omega) (by omega) (by omega)]
theorem M_draw {a : Nat} (ha : a < 2147483648) (h : xL z 44 = lN a) : f_X9_draw n 0 (12 : Int32) z = some (nI (sd a / 65536 % 12), sL z 44 (lN (sd a))) := by
  have hs : sd a < 2147483648 := Nat.mod_lt _ (by omega)
  have h1 := Nat.div_le_self (sd a) 65536
  have h2 := Nat.mod_lt (sd a / 65536) (show 0 < 12 by omega)
  unfold f_X9_draw
  rw [if_pos (show ¬ Int32.toInt64 12 = 0 from by decide), h, show (1103515245 : Int64) * lN a + 12345 = lN (1103515245 * a + 12345) from by rw [show (1103515245 : Int64) = lN 1103515245 from rfl, show (12345 : Int64) = lN 12345 from rfl, yN_mul, yN_add], I64_and31]
  show some (Int64.toInt32 (xL (sL z 44 (lN (sd a))) 44 / 65536 - xL (sL z 44 (lN (sd a))) 44 / 65536 / Int32.toInt64 12 * Int32.toInt64 12), sL z 44 (lN (sd a))) = _
  rw [xL_sL, if_pos rfl, show (65536 : Int64) = lN 65536 from rfl, yN_div (by omega) (by omega) (by omega), show Int32.toInt64 12 = lN 12 from by decide, yN_div (by omega) (by omega) (by omega), yN_mul, yN_sub (by omega), show sd a / 65536 - sd a / 65536 / 12 * 12 = sd a / 65536 % 12 from by omega, yN_i (by omega)]
theorem S_actAt12 {k : Nat} (hk : k < 12) : f_X8_actAt n (nI k) x = some (nI (dA k), x) := by
  rcases (show k = 0 ∨ k = 1 ∨ k = 2 ∨ k = 3 ∨ k = 4 ∨ k = 5 ∨ k = 6 ∨ k = 7 ∨ k = 8 ∨ k = 9 ∨ k = 10 ∨ k = 11 by omega) with e | e | e | e | e | e | e | e | e | e | e | e <;> subst e <;> rfl
theorem M_actBy12 {k : Nat} (hk : k < 12) : f_X9_actBy n (nI k) (1 : Int32) z = some (nI (dA k), z) := by
  rcases (show k = 0 ∨ k = 1 ∨ k = 2 ∨ k = 3 ∨ k = 4 ∨ k = 5 ∨ k = 6 ∨ k = 7 ∨ k = 8 ∨ k = 9 ∨ k = 10 ∨ k = 11 by omega) with e | e | e | e | e | e | e | e | e | e | e | e <;> subst e <;> rfl
theorem M_actBy7 {k : Nat} (hk : k < 8) : f_X9_actBy n (nI k) (0 : Int32) z = some (nI (if k < 7 then dA k else 9), z) := by
  rcases (show k = 0 ∨ k = 1 ∨ k = 2 ∨ k = 3 ∨ k = 4 ∨ k = 5 ∨ k = 6 ∨ k = 7 by omega) with e | e | e | e | e | e | e | e <;> subst e <;> rfl
end SD
