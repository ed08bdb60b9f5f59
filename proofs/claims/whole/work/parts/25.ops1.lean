/-! CALLS, one by one (1) -/
theorem inB_neg {v : Int32} {N : Nat} (h : v < 0) : am_inB v N = false := by
  unfold am_inB
  rw [Int32.lt_iff_toInt_lt, show (0 : Int32).toInt = 0 from by decide] at h
  rw [decide_eq_false (by omega), Bool.false_and]
theorem inB_ge {v : Int32} {N : Nat} (hN : N < 2147483648) (h : nI N ≤ v) : am_inB v N = false := by
  unfold am_inB
  rw [Int32.le_iff_toInt_le, nI_toInt (by omega)] at h
  rw [decide_eq_false (p := v.toInt < N) (by omega), Bool.and_false]
theorem inB_of {v : Int32} {N : Nat} (hN : N < 2147483648) (h : am_inB v N = true) : ∃ j, j < N ∧ v = nI j := by
  rcases pk_ix v (show N < 2 ^ 31 by omega) with h1 | h1 | h1
  · rw [inB_neg h1] at h; cases h
  · rw [inB_ge hN h1] at h; cases h
  · exact h1
theorem Ok.same {tm : Nat} {α : Type} {r s : Option (α × am_X)} {v : α} {x x' z z' : am_X} (h : Rel tm x z) (hk : ∀ i, xK x i < 5) (ht : tm < 1000) (hr : r = some (v, x')) (hs : s = some (v, z')) (hx : eC x x') (hz : eM z z') : Ok tm r s := ⟨v, x', z', hr, hs, (h.same hx hz).up ht, hx.2.2.2 hk⟩
theorem Ok.same0 {tm : Nat} {α : Type} {r s : Option (α × am_X)} {v : α} {x z : am_X} (h : Rel tm x z) (hk : ∀ i, xK x i < 5) (ht : tm < 1000) (hr : r = some (v, x)) (hs : s = some (v, z)) : Ok tm r s := Ok.same h hk ht hr hs eC.rf eM.rf
theorem S_isKnown {n t N w : Nat} {T : Nat → PS} {x : am_X} (h : cT x t N w T) (v : Int32) : f_X7_isKnown n t v x = some ((if am_inB v N = true then 1 else 0), x) := by
  have h4 := h.1
  unfold f_X7_isKnown
  rw [h.2.1]
  rcases pk_ix v (show N < 2 ^ 31 by omega) with h1 | h1 | ⟨j, h1, rfl⟩
  · rw [if_pos h1, inB_neg h1]; rfl
  · rw [inB_ge (by omega) h1, if_pos h1]
    split <;> rfl
  · rw [if_neg (nI_pos (by omega)), if_neg (nI_ge h1 (by omega)), li4, if_neg (nI_ge (by omega) (by omega)), am_inB_nI h1 (by omega)]
    rfl
theorem M_isThere {n N w : Nat} {T : Nat → PS} {z : am_X} (h : mT z N w T) (v : Int32) : f_X9_isThere n 0 v z = some ((if am_inB v N = true then 1 else 0), z) := by
  have h4 := h.1
  have key : f_X9_within n v (0 : Int32) ((xF z 32 7 0) - (1 : Int32)) z = some ((if am_inB v N = true then 1 else 0), z) := by
    unfold f_X9_within
    rw [h.2.1]
    rcases pk_ix v (show N < 2 ^ 31 by omega) with h1 | h1 | ⟨j, h1, rfl⟩
    · rw [if_pos h1, inB_neg h1]; rfl
    · rw [inB_ge (by omega) h1]
      by_cases h0 : v < 0
      · rw [if_pos h0]; rfl
      · rw [if_neg h0, if_pos (by
          rw [Int32.lt_iff_toInt_lt]
          rw [Int32.le_iff_toInt_le, nI_toInt (by omega)] at h1
          rw [li1, pk_sub_toInt (by omega) (by omega)]
          omega)]
        rfl
    · rw [if_neg (nI_pos (by omega)), li1, nI_subi (by omega), if_neg (nI_nlt (by omega) (by omega)), am_inB_nI h1 (by omega)]
      rfl
  unfold f_X9_isThere
  rw [key, ob, if_pos (bz_if _)]
/-- one of the PEOPLE, and not GONE -/
def hr (N : Nat) (T : Nat → PS) (v : Int32) : Bool := am_inB v N && decide (pZ (T v.toNatClampNeg) = 0)
theorem hr_of {N : Nat} {T : Nat → PS} {v : Int32} (hN : N ≤ 4) (h : hr N T v = true) : ∃ j, j < N ∧ v = nI j ∧ pZ (T j) = 0 := by
  unfold hr at h
  rw [Bool.and_eq_true, decide_eq_true_eq] at h
  obtain ⟨j, hj, rfl⟩ := inB_of (by omega) h.1
  rw [nI_c (by omega)] at h
  exact ⟨j, hj, rfl, h.2⟩
theorem S_isHere {n N w : Nat} {T : Nat → PS} {x : am_X} (h : cT x 0 N w T) (v : Int32) : f_X7_isHere n 0 v x = some ((if hr N T v = true then 1 else 0), x) := by
  have h4 := h.1
  unfold f_X7_isHere
  rw [S_isKnown h v, ob]
  unfold hr
  cases hb : am_inB v N with
  | false => rfl
  | true =>
    obtain ⟨j, hj, rfl⟩ := inB_of (by omega) hb
    have hP := h.2.2.2 j (by omega)
    have hz := hP.1.2.2.2
    rw [if_pos rfl, if_neg n10, S_one (by omega), ob, hP.2.2.2.2.2.1, nI_c (by omega)]
    by_cases e : pZ (T j) = 0
    · rw [if_neg (fun w => w ((z0 (by omega)).mpr e)), if_pos (by simpa using e)]
    · rw [if_pos (fun w => e ((z0 (by omega)).mp w)), if_neg (by simpa using e)]
theorem M_isPerson {n N w : Nat} {T : Nat → PS} {z : am_X} (h : mT z N w T) (v : Int32) : f_X9_isPerson n 0 v z = some ((if hr N T v = true then 1 else 0), z) := by
  have h4 := h.1
  unfold f_X9_isPerson
  rw [M_isThere h v, ob]
  unfold hr
  cases hb : am_inB v N with
  | false => rfl
  | true =>
    obtain ⟨j, hj, rfl⟩ := inB_of (by omega) hb
    have hP := h.2.2.2 j hj
    have hz := hP.2.2.1
    rw [if_pos rfl, if_neg n10, if_pos (am_inB_nI (by omega) (by omega)), nI_c (by omega), hP.2.2.2.2]
    by_cases e : pZ (T j) = 0
    · rw [if_neg (fun w => w ((z0 (by omega)).mpr e)), if_pos (by simpa using e)]
    · rw [if_pos (fun w => e ((z0 (by omega)).mp w)), if_neg (by simpa using e)]
/-- a range -/
def rg (a b : Nat) (v : Int32) : Bool := decide ((a : Int) ≤ v.toInt) && decide (v.toInt ≤ b)
theorem rg_of {a b : Nat} {v : Int32} (hb : b < 2147483648) (h : rg a b v = true) : ∃ j, a ≤ j ∧ j ≤ b ∧ v = nI j := by
  unfold rg at h
  rw [Bool.and_eq_true, decide_eq_true_eq, decide_eq_true_eq] at h
  rcases pk_ix v (show b < 2 ^ 31 by omega) with h1 | h1 | ⟨j, h1, rfl⟩
  · rw [Int32.lt_iff_toInt_lt, show (0 : Int32).toInt = 0 from by decide] at h1
    omega
  · rw [Int32.le_iff_toInt_le, nI_toInt (by omega)] at h1
    exact ⟨b, by omega, by omega, Int32.toInt_inj.mp (by rw [nI_toInt (by omega)]; omega)⟩
  · rw [nI_toInt (by omega)] at h
    exact ⟨j, by omega, by omega, rfl⟩
theorem lt_nI {a : Nat} {v : Int32} (ha : a < 2147483648) : v < nI a ↔ v.toInt < a := by rw [Int32.lt_iff_toInt_lt, nI_toInt (by omega)]
theorem nI_lt' {a : Nat} {v : Int32} (ha : a < 2147483648) : nI a < v ↔ (a : Int) < v.toInt := by rw [Int32.lt_iff_toInt_lt, nI_toInt (by omega)]
theorem le_nI {a : Nat} {v : Int32} (ha : a < 2147483648) : v ≤ nI a ↔ v.toInt ≤ a := by rw [Int32.le_iff_toInt_le, nI_toInt (by omega)]
theorem nI_le' {a : Nat} {v : Int32} (ha : a < 2147483648) : nI a ≤ v ↔ (a : Int) ≤ v.toInt := by rw [Int32.le_iff_toInt_le, nI_toInt (by omega)]
theorem M_within {n a b : Nat} (z : am_X) (v : Int32) (ha : a < 2147483648) (hb : b < 2147483648) : f_X9_within n v (nI a) (nI b) z = some ((if rg a b v = true then 1 else 0), z) := by
  unfold f_X9_within rg
  by_cases e : v.toInt < a
  · rw [if_pos ((lt_nI ha).mpr e), if_neg (by simp; omega)]
  · rw [if_neg (fun h => e ((lt_nI ha).mp h))]
    by_cases e2 : (b : Int) < v.toInt
    · rw [if_pos ((nI_lt' hb).mpr e2), if_neg (by simp; omega)]
    · rw [if_neg (fun h => e2 ((nI_lt' hb).mp h)), if_pos (by simp; omega)]
/-! parts of the relation, kept -/
def eX (E : Nat → Nat → Nat → Prop) (EA : Nat → Nat → Prop) (x x' : am_X) : Prop := (∀ t k i, ¬ E t k i → xF x' t k i = xF x t k i) ∧ (∀ t i q, ¬ EA t i → xA x' t i q = xA x t i q) ∧ ∀ i, ¬ E 4 0 i → xK x' i = xK x i
def eY (E : Nat → Prop) (EA : Nat → Nat → Prop) (z z' : am_X) : Prop := (∀ k, ¬ E k → xF z' 32 k 0 = xF z 32 k 0) ∧ ∀ t q, ¬ EA t q → xA z' t 0 q = xA z t 0 q
section KP
variable {E : Nat → Nat → Nat → Prop} {EA : Nat → Nat → Prop} {x x' z z' : am_X} {F : Nat → Prop} {FA : Nat → Nat → Prop}
theorem eX.P {i : Nat} {P : PS} (h : eX E EA x x') (hE : ∀ k, ¬ E 4 k i ∧ ¬ E 5 k i) (hA : ¬ EA 12 i) (hc : cP x i P) : cP x' i P := ⟨hc.1, by rw [h.2.2 i (hE 0).1]; exact hc.2.1, by rw [h.1 _ _ _ (hE 2).1]; exact hc.2.2.1, by rw [h.1 _ _ _ (hE 3).1]; exact hc.2.2.2.1, by rw [h.1 _ _ _ (hE 4).1]; exact hc.2.2.2.2.1, by rw [h.1 _ _ _ (hE 5).1]; exact hc.2.2.2.2.2.1, by rw [h.1 _ _ _ (hE 1).2]; exact hc.2.2.2.2.2.2.1, hc.2.2.2.2.2.2.2.1, hc.2.2.2.2.2.2.2.2.1, fun k hk => by rw [h.2.1 _ _ _ hA]; exact hc.2.2.2.2.2.2.2.2.2 k hk⟩
theorem eX.T {t N w : Nat} {T : Nat → PS} (h : eX E EA x x') (hE : ∀ k, ¬ E 3 k t) (hP : ∀ i, i < 4 → ∀ k, ¬ E 4 k (4 * t + i) ∧ ¬ E 5 k (4 * t + i)) (hA : ∀ i, i < 4 → ¬ EA 12 (4 * t + i)) (hc : cT x t N w T) : cT x' t N w T := ⟨hc.1, by rw [h.1 _ _ _ (hE 1)]; exact hc.2.1, by rw [h.1 _ _ _ (hE 2)]; exact hc.2.2.1, fun i hi => h.P (hP i hi) (hA i hi) (hc.2.2.2 i hi)⟩
theorem eX.L {l : LW} (h : eX E EA x x') (hE : ¬ E 2 3 0) (hA : ¬ EA 9 0 ∧ ¬ EA 10 0 ∧ ¬ EA 11 0) (hc : cL x 0 l) : cL x' 0 l := ⟨fun d hd => ⟨by rw [h.2.1 _ _ _ hA.1]; exact (hc.1 d hd).1, by rw [h.2.1 _ _ _ hA.2.1]; exact (hc.1 d hd).2.1, by rw [h.2.1 _ _ _ hA.2.2]; exact (hc.1 d hd).2.2⟩, by rw [h.1 _ _ _ hE]; exact hc.2⟩
theorem eX.A {lr g a pi : Nat} (h : eX E EA x x') (hE : ∀ k, ¬ E 0 k 0) (hc : xF x 0 9 0 = nI lr ∧ xF x 0 10 0 = nI g ∧ xF x 0 11 0 = nI a ∧ xF x 0 8 0 = nI pi) : xF x' 0 9 0 = nI lr ∧ xF x' 0 10 0 = nI g ∧ xF x' 0 11 0 = nI a ∧ xF x' 0 8 0 = nI pi := by
  rw [h.1 _ _ _ (hE 9), h.1 _ _ _ (hE 10), h.1 _ _ _ (hE 11), h.1 _ _ _ (hE 8)]
  exact hc
theorem eX.G {ls : List Nat} (h : eX E EA x x') (hE : ¬ E 1 2 0) (hA : ¬ EA 8 0) (hc : xF x 1 2 0 = nI ls.length ∧ ∀ k, k < ls.length → xA x 8 0 k = nI (ls.getD k 0)) : xF x' 1 2 0 = nI ls.length ∧ ∀ k, k < ls.length → xA x' 8 0 k = nI (ls.getD k 0) := ⟨by rw [h.1 _ _ _ hE]; exact hc.1, fun k hk => by rw [h.2.1 _ _ _ hA]; exact hc.2 k hk⟩
theorem eX.B {bg : Nat} {tl : List Nat} (h : eX E EA x x') (hE : ∀ k, ¬ E 7 k 0) (hA : ¬ EA 15 0) (hc : xF x 7 2 0 = nI bg ∧ xF x 7 3 0 = nI tl.length ∧ ∀ k, k < tl.length → xA x 15 0 k = nI (tl.getD k 0)) : xF x' 7 2 0 = nI bg ∧ xF x' 7 3 0 = nI tl.length ∧ ∀ k, k < tl.length → xA x' 15 0 k = nI (tl.getD k 0) := ⟨by rw [h.1 _ _ _ (hE 2)]; exact hc.1, by rw [h.1 _ _ _ (hE 3)]; exact hc.2.1, fun k hk => by rw [h.2.1 _ _ _ hA]; exact hc.2.2 k hk⟩
theorem eX.B2 {bg sw : Nat} {B : PS} (h : eX E EA x x') (hE : ¬ E 7 4 0) (hP : ∀ k, ¬ E 4 k 20 ∧ ¬ E 5 k 20) (hA : ¬ EA 12 20) (hc : bg = 1 → xF x 7 4 0 = nI sw ∧ cP x 20 B) : bg = 1 → xF x' 7 4 0 = nI sw ∧ cP x' 20 B := fun hb => ⟨by rw [h.1 _ _ _ hE]; exact (hc hb).1, h.P hP hA (hc hb).2⟩
theorem eY.P {p : Nat} {P : PS} (h : eY F FA z z') (hA : ∀ t, 48 ≤ t → t ≤ 53 → ¬ FA t p) (hA2 : ∀ k, k < 12 → ¬ FA 54 (12 * p + k)) (hc : mP z p P) : mP z' p P := ⟨⟨hc.1.1, hc.1.2.1, by rw [h.2 _ _ (hA 48 (by omega) (by omega))]; exact hc.1.2.2.1, by rw [h.2 _ _ (hA 49 (by omega) (by omega))]; exact hc.1.2.2.2.1, by rw [h.2 _ _ (hA 50 (by omega) (by omega))]; exact hc.1.2.2.2.2.1, by rw [h.2 _ _ (hA 53 (by omega) (by omega))]; exact hc.1.2.2.2.2.2.1, hc.1.2.2.2.2.2.2.1, hc.1.2.2.2.2.2.2.2.1, fun k hk => by have := hc.1.2.2.2.2.2.2.1; rw [h.2 _ _ (hA2 k (by omega))]; exact hc.1.2.2.2.2.2.2.2.2 k hk⟩, hc.2.1, hc.2.2.1, by rw [h.2 _ _ (hA 51 (by omega) (by omega))]; exact hc.2.2.2.1, by rw [h.2 _ _ (hA 52 (by omega) (by omega))]; exact hc.2.2.2.2⟩
theorem eY.T {N w : Nat} {T : Nat → PS} (h : eY F FA z z') (hE : ¬ F 7 ∧ ¬ F 6) (hA : ∀ p, p < 4 → ∀ t, 48 ≤ t → t ≤ 53 → ¬ FA t p) (hA2 : ∀ q, q < 48 → ¬ FA 54 q) (hc : mT z N w T) : mT z' N w T := ⟨hc.1, by rw [h.1 _ hE.1]; exact hc.2.1, by rw [h.1 _ hE.2]; exact hc.2.2.1, fun p hp => h.P (hA p (by have := hc.1; omega)) (fun k hk => hA2 _ (by have := hc.1; omega)) (hc.2.2.2 p hp)⟩
theorem eY.L {l : LW} (h : eY F FA z z') (hE : ¬ F 2) (hA : ∀ d, ¬ FA 43 d ∧ ¬ FA 44 d ∧ ¬ FA 45 d) (hc : mL z l) : mL z' l := ⟨fun d hd => ⟨by rw [h.2 _ _ (hA d).1]; exact (hc.1 d hd).1, by rw [h.2 _ _ (hA d).2.1]; exact (hc.1 d hd).2.1, by rw [h.2 _ _ (hA d).2.2]; exact (hc.1 d hd).2.2⟩, by rw [h.1 _ hE]; exact hc.2⟩
theorem eY.A {lr g a pi : Nat} (h : eY F FA z z') (hE : ¬ F 0 ∧ ¬ F 1 ∧ ¬ F 15 ∧ ¬ F 35 ∧ ¬ F 51) (hc : xF z 32 0 0 = nI (if lr = 0 then 0 else 1) ∧ xF z 32 1 0 = nI lr ∧ xF z 32 15 0 = nI g ∧ xF z 32 35 0 = nI a ∧ xF z 32 51 0 = nI pi) : xF z' 32 0 0 = nI (if lr = 0 then 0 else 1) ∧ xF z' 32 1 0 = nI lr ∧ xF z' 32 15 0 = nI g ∧ xF z' 32 35 0 = nI a ∧ xF z' 32 51 0 = nI pi := by
  rw [h.1 _ hE.1, h.1 _ hE.2.1, h.1 _ hE.2.2.1, h.1 _ hE.2.2.2.1, h.1 _ hE.2.2.2.2]
  exact hc
theorem eY.I {Np wp : Nat} {Tp : Nat → PS} (h : eY F FA z z') (hE : ¬ F 53 ∧ ¬ F 52) (hA : ∀ t q, 94 ≤ t → t ≤ 99 → ¬ FA t q) (hc : xF z 32 53 0 = nI Np ∧ xF z 32 52 0 = nI wp ∧ ∀ p, p < Np → mI z p (Tp p)) : xF z' 32 53 0 = nI Np ∧ xF z' 32 52 0 = nI wp ∧ ∀ p, p < Np → mI z' p (Tp p) := ⟨by rw [h.1 _ hE.1]; exact hc.1, by rw [h.1 _ hE.2]; exact hc.2.1, fun p hp => ⟨by rw [h.2 _ _ (hA 94 _ (by omega) (by omega))]; exact (hc.2.2 p hp).1, by rw [h.2 _ _ (hA 95 _ (by omega) (by omega))]; exact (hc.2.2 p hp).2.1, by rw [h.2 _ _ (hA 96 _ (by omega) (by omega))]; exact (hc.2.2 p hp).2.2.1, by rw [h.2 _ _ (hA 97 _ (by omega) (by omega))]; exact (hc.2.2 p hp).2.2.2.1, by rw [h.2 _ _ (hA 98 _ (by omega) (by omega))]; exact (hc.2.2 p hp).2.2.2.2.1, fun k hk => by rw [h.2 _ _ (hA 99 _ (by omega) (by omega))]; exact (hc.2.2 p hp).2.2.2.2.2 k hk⟩⟩
theorem eY.G {ls : List Nat} (h : eY F FA z z') (hE : ¬ F 16) (hA : ∀ q, ¬ FA 57 q) (hc : xF z 32 16 0 = nI ls.length ∧ ∀ k, k < ls.length → xA z 57 0 k = nI (ls.getD k 0)) : xF z' 32 16 0 = nI ls.length ∧ ∀ k, k < ls.length → xA z' 57 0 k = nI (ls.getD k 0) := ⟨by rw [h.1 _ hE]; exact hc.1, fun k hk => by rw [h.2 _ _ (hA _)]; exact hc.2 k hk⟩
theorem eY.B {bg : Nat} {tl : List Nat} (h : eY F FA z z') (hE : ¬ F 32 ∧ ¬ F 33) (hA : ∀ q, ¬ FA 74 q) (hc : (if bg = 1 then ∃ b, b < 4 ∧ xF z 32 32 0 = nI b else xF z 32 32 0 = -1) ∧ xF z 32 33 0 = nI tl.length ∧ ∀ k, k < tl.length → xA z 74 0 k = nI (tl.getD k 0)) : (if bg = 1 then ∃ b, b < 4 ∧ xF z' 32 32 0 = nI b else xF z' 32 32 0 = -1) ∧ xF z' 32 33 0 = nI tl.length ∧ ∀ k, k < tl.length → xA z' 74 0 k = nI (tl.getD k 0) := ⟨by rw [h.1 _ hE.1]; exact hc.1, by rw [h.1 _ hE.2]; exact hc.2.1, fun k hk => by rw [h.2 _ _ (hA _)]; exact hc.2.2 k hk⟩
theorem eY.B2 {bg sw : Nat} {B : PS} (h : eY F FA z z') (hE : ¬ F 36 ∧ ¬ F 37 ∧ ¬ F 38 ∧ ¬ F 39 ∧ ¬ F 40) (hA : ∀ q, ¬ FA 81 q) (hc : bg = 1 → xF z 32 36 0 = nI sw ∧ xF z 32 37 0 = nI (pK B) ∧ xF z 32 38 0 = pG B ∧ xF z 32 39 0 = nI (pO B) ∧ xF z 32 40 0 = nI (pC B).length ∧ ∀ k, k < (pC B).length → xA z 81 0 k = nI ((pC B).getD k 0)) : bg = 1 → xF z' 32 36 0 = nI sw ∧ xF z' 32 37 0 = nI (pK B) ∧ xF z' 32 38 0 = pG B ∧ xF z' 32 39 0 = nI (pO B) ∧ xF z' 32 40 0 = nI (pC B).length ∧ ∀ k, k < (pC B).length → xA z' 81 0 k = nI ((pC B).getD k 0) := fun hb => ⟨by rw [h.1 _ hE.1]; exact (hc hb).1, by rw [h.1 _ hE.2.1]; exact (hc hb).2.1, by rw [h.1 _ hE.2.2.1]; exact (hc hb).2.2.1, by rw [h.1 _ hE.2.2.2.1]; exact (hc hb).2.2.2.1, by rw [h.1 _ hE.2.2.2.2]; exact (hc hb).2.2.2.2.1, fun k hk => by rw [h.2 _ _ (hA _)]; exact (hc hb).2.2.2.2.2 k hk⟩
end KP
/-- the page is another one -/
theorem RC_page {x x' : am_X} {lr g a : Nat} {l : LW} {N w : Nat} {T : Nat → PS} {pi Np wp : Nat} {Tp : Nat → PS} {ls ls' : List Nat} {bg : Nat} {tl : List Nat} {sw : Nat} {B : PS} (h : RC x lr g a l N w T pi Np wp Tp ls bg tl sw B) (e : eX (fun t k _ => t = 1 ∧ k = 2) (fun t _ => t = 8) x x') (hg : xF x' 1 2 0 = nI ls'.length ∧ ∀ k, k < ls'.length → xA x' 8 0 k = nI (ls'.getD k 0)) : RC x' lr g a l N w T pi Np wp Tp ls' bg tl sw B :=
  ⟨e.A (by intro k; omega) h.1, e.L (by omega) (by omega) h.2.1, e.T (by intro k; omega) (by intro i _ k; omega) (by intro i _; omega) h.2.2.1, e.T (by intro k; omega) (by intro i _ k; omega) (by intro i _; omega) h.2.2.2.1, hg, e.B (by intro k; omega) (by omega) h.2.2.2.2.2.1, e.B2 (by omega) (by intro k; omega) (by omega) h.2.2.2.2.2.2⟩
theorem RM_page {z z' : am_X} {lr g a : Nat} {l : LW} {N w : Nat} {T : Nat → PS} {pi Np wp : Nat} {Tp : Nat → PS} {ls ls' : List Nat} {bg : Nat} {tl : List Nat} {sw : Nat} {B : PS} (h : RM z lr g a l N w T pi Np wp Tp ls bg tl sw B) (e : eY (fun k => k = 16) (fun t _ => t = 57) z z') (hg : xF z' 32 16 0 = nI ls'.length ∧ ∀ k, k < ls'.length → xA z' 57 0 k = nI (ls'.getD k 0)) : RM z' lr g a l N w T pi Np wp Tp ls' bg tl sw B :=
  ⟨e.A (by omega) h.1, e.L (by omega) (by intro d; omega) h.2.1, e.T (by omega) (by intro p _ t _ _; omega) (by intro q _; omega) h.2.2.1, e.I (by omega) (by intro t q _ _; omega) h.2.2.2.1, hg, e.B (by omega) (by intro q; omega) h.2.2.2.2.2.1, e.B2 (by omega) (by intro q; omega) h.2.2.2.2.2.2⟩
section O1
variable {n tm : Nat} {x z : am_X}
theorem O_blank (ht : tm < 1000) (hk : ∀ i, xK x i < 5) (h : Rel tm x z) : Ok tm (f_X8_blank n 0 x) (f_X9_blank n 0 z) := by
  obtain ⟨lr, g, a, l, N, w, T, pi, Np, wp, Tp, ls, bg, tl, sw, B, h1, h2, h3⟩ := h
  unfold f_X8_blank f_X9_blank
  rw [h1.2.2.2.2.1.1, h2.2.2.2.2.1.1]
  refine ⟨_, _, _, rfl, rfl, Rel.up ⟨lr, g, a, l, N, w, T, pi, Np, wp, Tp, [], bg, tl, sw, B, RC_page h1 ⟨fun t k i o => by rw [xF_sF, if_neg (by omega)], fun _ _ _ _ => rfl, fun _ _ => rfl⟩ ⟨by rw [xF_sF, if_pos ⟨rfl, rfl, rfl⟩]; rfl, fun k hk => absurd hk (Nat.not_lt_zero k)⟩, RM_page h2 ⟨fun k o => by rw [xF_sF, if_neg (by omega)], fun _ _ _ => rfl⟩ ⟨by rw [xF_sF, if_pos ⟨rfl, rfl, rfl⟩]; rfl, fun k hk => absurd hk (Nat.not_lt_zero k)⟩, ?_⟩ ht, hk⟩
  obtain ⟨i1, i2, i3, i4, i5, i6, i7, i8⟩ := h3
  exact ⟨i1, i2, i3, i4, i5, i6, ⟨Nat.zero_le _, fun c hc => absurd hc List.not_mem_nil⟩, i8⟩
theorem O_letter (ht : tm < 1000) (hk : ∀ i, xK x i < 5) (h : Rel tm x z) (v : Int32) : Ok tm (f_X8_letter n 0 v x) (f_X9_letter n 0 v z) := by
  have h0 := h
  obtain ⟨lr, g, a, l, N, w, T, pi, Np, wp, Tp, ls, bg, tl, sw, B, h1, h2, h3⟩ := h
  have hc5 := h1.2.2.2.2.1
  have hm5 := h2.2.2.2.2.1
  have h30 := h3.2.2.2.2.2.2.1.1
  unfold f_X8_letter f_X9_letter
  rw [show (32 : Int32) = nI 32 from rfl, show (126 : Int32) = nI 126 from rfl, M_within z v (by omega) (by omega), ob]
  cases hr : rg 32 126 v with
  | false =>
    unfold rg at hr
    refine Ok.same0 (v := -102) h0 hk ht ?_ rfl
    by_cases e : v < nI 32
    · rw [if_pos e]
    · rw [if_neg e, if_neg]
      intro e2
      rw [lt_nI (by omega)] at e
      rw [le_nI (by omega)] at e2
      rw [decide_eq_true (by omega), decide_eq_true (by omega)] at hr
      cases hr
  | true =>
    obtain ⟨c, c1, c2, rfl⟩ := rg_of (by omega) hr
    rw [if_neg (nI_nlt (by omega) (by omega)), if_pos (nI_le (by omega) (by omega)), if_pos rfl, if_pos n10]
    unfold f_X5_hasRoom f_X5_write
    rw [hc5.1, hm5.1, show (30 : Int32) = nI 30 from rfl]
    by_cases e : ls.length < 30
    · rw [if_neg (nI_ge e (by omega)), ob, if_pos n10, if_pos (show ¬ nI ls.length = nI 30 from fun w => by have := (nI_eq (by omega) (by omega)).mp w; omega), if_pos (am_inB_nI e (by omega))]
      rw [hc5.1, if_neg (nI_pos (by omega)), if_neg (nI_ge e (by omega)), if_pos (am_inB_nI e (by omega)), ob, nI_c (by omega), li1, nI_add]
      rw [xF_sF, if_pos ⟨rfl, rfl, rfl⟩, xF_sF, if_pos ⟨rfl, rfl, rfl⟩]
      have hb : (Int8.toInt32 (Int32.toInt8 (Int8.toInt32 (Int32.toInt8 (nI c))))) = nI c := by
        have : ∀ c, c < 127 → (Int8.toInt32 (Int32.toInt8 (Int8.toInt32 (Int32.toInt8 (nI c))))) = nI c := by decide +kernel
        exact this c (by omega)
      rw [hb]
      have hlen : (ls ++ [c]).length = ls.length + 1 := by rw [List.length_append]; rfl
      refine ⟨_, _, _, rfl, rfl, Rel.up ⟨lr, g, a, l, N, w, T, pi, Np, wp, Tp, ls ++ [c], bg, tl, sw, B, RC_page h1 ⟨fun t k i o => by rw [xF_sF, if_neg (by omega)]; rfl, fun t i q o => by rw [xA_sF, xA_sA, if_neg (by omega)], fun _ _ => rfl⟩ ⟨by rw [xF_sF, if_pos ⟨rfl, rfl, rfl⟩, hlen], fun k hk => ?_⟩, RM_page h2 ⟨fun k o => by rw [xF_sF, if_neg (by omega)]; rfl, fun t q o => by rw [xA_sF, xA_sA, if_neg (by omega)]⟩ ⟨by rw [xF_sF, if_pos ⟨rfl, rfl, rfl⟩, hlen], fun k hk => ?_⟩, ?_⟩ ht, hk⟩
      · rw [hlen] at hk
        rw [xA_sF, xA_sA, cr_getD_app]
        by_cases e2 : k = ls.length
        · rw [if_pos ⟨rfl, rfl, e2⟩, if_neg (by omega), if_pos e2]
        · rw [if_neg (fun w => e2 w.2.2), if_pos (by omega)]
          exact hc5.2 k (by omega)
      · rw [hlen] at hk
        rw [xA_sF, xA_sA, cr_getD_app]
        by_cases e2 : k = ls.length
        · rw [if_pos ⟨rfl, rfl, e2⟩, if_neg (by omega), if_pos e2]
        · rw [if_neg (fun w => e2 w.2.2), if_pos (by omega)]
          exact hm5.2 k (by omega)
      · obtain ⟨i1, i2, i3, i4, i5, i6, i7, i8⟩ := h3
        refine ⟨i1, i2, i3, i4, i5, i6, ⟨by rw [hlen]; omega, fun d hd => ?_⟩, i8⟩
        rcases List.mem_append.mp hd with hd | hd
        · exact i7.2 d hd
        · rw [List.mem_singleton.mp hd]
          omega
    · rw [if_pos (nI_le (by omega) (by omega)), ob, if_neg (fun w => w rfl), if_neg (fun w => w (by rw [show ls.length = 30 from by omega]))]
      exact Ok.same0 h0 hk ht rfl rfl
end O1
