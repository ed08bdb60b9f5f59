/-! CALLS, one by one (2): people -/
theorem M_told {n p a : Nat} {z : am_X} {P : PS} (hn : 100 ≤ n) (hp : p < 4) (hP : mP z p P) (ha : a < 10) : f_X9_personNow n 0 (nI p) (nI a) z = some (pTold P a, z) := by
  obtain ⟨⟨k5, o9, e1, e2, e3, e4⟩, a1, z1, e5, e6⟩ := hP
  have hin : am_inB (nI p) 5 = true := am_inB_nI (by omega) (by omega)
  have hin2 : am_inB ((12 : Int32) * nI p) 60 = true := by rw [li12, pk_mul]; exact am_inB_nI (by omega) (by omega)
  have h12 : Int32.toNatClampNeg ((12 : Int32) * nI p) = 12 * p := by rw [li12, pk_mul, nI_c (by omega)]
  have how : ∀ a, 4 ≤ a → a < 7 → b_X9_personNow_80 n 0 (nI p) (nI a) z = some (nI ((pC P).countP (cr_has (2 ^ (a - 4)))), z) := by
    intro a h4 h7
    unfold b_X9_personNow_80
    have : ∀ a, a < 7 → 4 ≤ a → ((1 : Int32) <<< ((nI a - (4 : Int32)) &&& 31)) = nI (2 ^ (a - 4)) := by decide +kernel
    rw [this a h7 h4, M_count hn (by omega) e4 (by rcases (show a = 4 ∨ a = 5 ∨ a = 6 by omega) with rfl | rfl | rfl <;> decide), ob]
  unfold f_X9_personNow pTold
  rw [if_pos hin, if_pos hin, if_pos hin, if_pos hin, if_pos hin, if_pos hin2, if_pos hin, if_pos hin, nI_c (by omega), h12, e1, e2, e3, e4.1, e5, e6]
  rcases (show a = 0 ∨ a = 1 ∨ a = 2 ∨ a = 3 ∨ a = 4 ∨ a = 5 ∨ a = 6 ∨ a = 7 ∨ a = 8 ∨ a = 9 by omega) with rfl | rfl | rfl | rfl | rfl | rfl | rfl | rfl | rfl | rfl
  · rfl
  · rfl
  · rfl
  · rfl
  · exact how 4 (by omega) (by omega)
  · exact how 5 (by omega) (by omega)
  · exact how 6 (by omega) (by omega)
  · have hl := e4.2.1
    show (if ¬ nI (pC P).length = 0 then some (xA z 54 0 (12 * p) / (4 : Int32), z) else some ((-1 : Int32), z)) = _
    cases hcs : pC P with
    | nil => rfl
    | cons c cs =>
      have h0 := e4.2.2.2 0 (by rw [hcs]; exact Nat.zero_lt_succ _)
      have hc := (e4.2.2.1 c (by rw [hcs]; exact List.mem_cons_self)).2
      rw [hcs] at h0 hl
      rw [if_pos (fun w => by have := (z0 (by omega)).mp w; simp at this), show 12 * p = 12 * p + 0 from rfl, h0]
      show some (nI c / (4 : Int32), z) = some (nI (c / 4), z)
      rw [li4, nI_div (by omega) (by omega) (by omega)]
  · rfl
  · rfl
theorem lt_z {v : Int32} : v < 0 ↔ v.toInt < 0 := lt_nI (a := 0) (by omega)
/-- a range, as the class asks for it -/
theorem rg_lt {α : Type} (v : Int32) (k : Nat) (hk : k < 2147483647) (A B : α) : (if v < 0 then A else if v < nI (k + 1) then B else A) = if rg 0 k v = true then B else A := by
  unfold rg
  by_cases e : v < 0
  · rw [if_pos e, if_neg]
    rw [lt_z] at e
    simp
    omega
  · rw [if_neg e]
    rw [lt_z] at e
    by_cases e2 : v < nI (k + 1)
    · rw [if_pos e2, if_pos]
      rw [lt_nI (by omega)] at e2
      simp
      omega
    · rw [if_neg e2, if_neg]
      rw [lt_nI (by omega)] at e2
      simp
      omega
theorem rg_le {α : Type} (v : Int32) (k : Nat) (hk : k < 2147483647) (A B : α) : (if v < 0 then A else if v ≤ nI k then B else A) = if rg 0 k v = true then B else A := by
  unfold rg
  by_cases e : v < 0
  · rw [if_pos e, if_neg]
    rw [lt_z] at e
    simp
    omega
  · rw [if_neg e]
    rw [lt_z] at e
    by_cases e2 : v ≤ nI k
    · rw [if_pos e2, if_pos]
      rw [le_nI (by omega)] at e2
      simp
      omega
    · rw [if_neg e2, if_neg]
      rw [le_nI (by omega)] at e2
      simp
      omega
theorem rg_ge {α : Type} (v : Int32) (k : Nat) (hk : k < 2147483647) (A B : α) : (if v < 0 then A else if nI (k + 1) ≤ v then A else B) = if rg 0 k v = true then B else A := by
  unfold rg
  by_cases e : v < 0
  · rw [if_pos e, if_neg]
    rw [lt_z] at e
    simp
    omega
  · rw [if_neg e]
    rw [lt_z] at e
    by_cases e2 : nI (k + 1) ≤ v
    · rw [if_pos e2, if_neg]
      rw [nI_le' (by omega)] at e2
      simp
      omega
    · rw [if_neg e2, if_pos]
      rw [nI_le' (by omega)] at e2
      simp
      omega
theorem W_0 {n b : Nat} (z : am_X) (v : Int32) (hb : b < 2147483648) : f_X9_within n v (0 : Int32) (nI b) z = some ((if rg 0 b v = true then 1 else 0), z) := M_within (a := 0) z v (by omega) hb
section O2
variable {n tm : Nat} {x z : am_X}
theorem O_about (hn : 100 ≤ n) (ht : tm < 1000) (hk : ∀ i, xK x i < 5) (h : Rel tm x z) (v w' : Int32) : Ok tm (f_X8_about n 0 v w' x) (f_X9_about n 0 v w' z) := by
  have h0 := h
  obtain ⟨lr, g, a, l, N, w, T, pi, Np, wp, Tp, ls, bg, tl, sw, B, h1, h2, h3⟩ := h
  have hc := h1.2.2.1
  have hm := h2.2.2.1
  have h4 := hc.1
  have hw9 : f_X9_within n w' (0 : Int32) (9 : Int32) z = some ((if rg 0 9 w' = true then 1 else 0), z) := W_0 (b := 9) z w' (by omega)
  unfold f_X8_about f_X9_about
  rw [S_isKnown hc, ob, M_isThere hm, ob]
  cases hb : am_inB v N with
  | false => exact Ok.same0 (v := -101) h0 hk ht rfl rfl
  | true =>
    obtain ⟨j, hj, rfl⟩ := inB_of (by omega) hb
    rw [if_pos rfl, if_pos n10, if_pos n10, hw9, ob, show (10 : Int32) = nI (9 + 1) from rfl, rg_lt w' 9 (by omega)]
    cases hr : rg 0 9 w' with
    | false => exact Ok.same0 (v := -102) h0 hk ht rfl rfl
    | true =>
      obtain ⟨c, c1, c2, rfl⟩ := rg_of (by omega) hr
      refine Ok.same0 (v := pTold (T j) c) h0 hk ht ?_ ?_
      · rw [if_pos rfl, S_one (by omega), ob, S_told hn (hc.2.2.2 j (by omega)) (by omega), ob]
      · rw [if_pos rfl, if_neg n10, M_told hn (by omega) (hm.2.2.2 j hj) (by omega), ob]
theorem S_isNumber (v : Int32) : f_X2_isNumber n v x = some ((if rg 0 4 v = true then 1 else 0), x) := by
  unfold f_X2_isNumber
  rw [show (5 : Int32) = nI (4 + 1) from rfl, rg_ge v 4 (by omega)]
  split <;> rfl
theorem S_numbered {k : Nat} (hk : k < 5) : f_X2_numbered n (nI k) x = some (k, x) := by
  unfold f_X2_numbered
  rw [if_neg (nI_pos (by omega)), show (5 : Int32) = nI 5 from rfl, if_neg (nI_ge hk (by omega)), if_pos (am_inB_nI hk (by omega)), nI_c (by omega)]
theorem O_as (ht : tm < 1000) (hk : ∀ i, xK x i < 5) (h : Rel tm x z) (v w' : Int32) : Ok tm (f_X8_as n 0 v w' x) (f_X9_as n 0 v w' z) := by
  have h0 := h
  obtain ⟨lr, g, a, l, N, w, T, pi, Np, wp, Tp, ls, bg, tl, sw, B, h1, h2, h3⟩ := h
  have hc := h1.2.2.1
  have hm := h2.2.2.1
  have h4 := hc.1
  have hw4 : f_X9_within n w' (0 : Int32) (4 : Int32) z = some ((if rg 0 4 w' = true then 1 else 0), z) := W_0 (b := 4) z w' (by omega)
  unfold f_X8_as f_X9_as
  rw [S_isKnown hc, ob, M_isThere hm, ob, S_isNumber, ob, hw4, ob]
  cases hb : am_inB v N with
  | false => exact Ok.same0 (v := -101) h0 hk ht rfl rfl
  | true =>
    obtain ⟨j, hj, rfl⟩ := inB_of (by omega) hb
    cases hr : rg 0 4 w' with
    | false => exact Ok.same0 (v := -102) h0 hk ht rfl rfl
    | true =>
      obtain ⟨c, c1, c2, rfl⟩ := rg_of (by omega) hr
      have hP := hc.2.2.2 j (by omega)
      have hQ := hm.2.2.2 j hj
      have k5 := hP.1.1
      have key : ∀ c, c < 5 → ∀ k, k < 5 → ∀ (r : Int32), (if k = c then (some ((1 : Int32), x) : Option (Int32 × am_X)) else if c = 0 then some ((1 : Int32), x) else if ¬ k = 4 then some ((0 : Int32), x) else if ¬ c = 3 then some ((0 : Int32), x) else some ((1 : Int32), x)) = some ((if c = 0 ∨ k = c ∨ (c = 3 ∧ k = 4) then (1 : Int32) else 0), x) := by
        intro c hc k hk r
        by_cases e1 : k = c
        · rw [if_pos e1, if_pos (Or.inr (Or.inl e1))]
        · rw [if_neg e1]
          by_cases e2 : c = 0
          · rw [if_pos e2, if_pos (Or.inl e2)]
          · rw [if_neg e2]
            by_cases e3 : k = 4
            · rw [if_neg (fun w => w e3)]
              by_cases e4 : c = 3
              · rw [if_neg (fun w => w e4), if_pos (Or.inr (Or.inr ⟨e4, e3⟩))]
              · rw [if_pos e4, if_neg (by omega)]
            · rw [if_pos e3, if_neg (by omega)]
      refine Ok.same0 (v := if c = 0 ∨ pK (T j) = c ∨ (c = 3 ∧ pK (T j) = 4) then nI j else -1) h0 hk ht ?_ ?_
      · rw [if_pos rfl, if_pos n10, if_pos n10, S_one (by omega), ob, S_numbered (by omega), ob, show 4 * 0 + j = j from by omega] 
        have hj2 : xK x j = pK (T j) := by have := hP.2.1; rwa [show 4 * 0 + j = j from by omega] at this
        unfold f_X2_isA
        rw [hj2, key c (by omega) (pK (T j)) k5 0, ob]
        by_cases e : c = 0 ∨ pK (T j) = c ∨ (c = 3 ∧ pK (T j) = 4)
        · rw [if_pos e, if_neg n10, if_pos e]
        · rw [if_neg e, if_pos rfl, if_neg e]
      · rw [if_pos rfl, if_pos n10, if_pos n10, if_pos (am_inB_nI (by omega) (by omega)), nI_c (by omega), hQ.1.2.2.1]
        by_cases e1 : c = 0
        · rw [if_pos ((z0 (by omega)).mpr e1), if_pos (Or.inl e1)]
        · rw [if_neg (fun w => e1 ((z0 (by omega)).mp w))]
          by_cases e2 : pK (T j) = c
          · rw [if_pos (by rw [e2]), if_pos (Or.inr (Or.inl e2))]
          · rw [if_neg (fun w => e2 ((nI_eq (by omega) (by omega)).mp w))]
            by_cases e3 : c = 3
            · rw [if_neg (fun w => w (by rw [e3]; rfl))]
              by_cases e4 : pK (T j) = 4
              · rw [if_neg (fun w => w (by rw [e4]; rfl)), if_pos (Or.inr (Or.inr ⟨e3, e4⟩))]
              · rw [if_pos (show ¬ nI (pK (T j)) = 4 from fun w => e4 ((nI_eq (b := 4) (by omega) (by omega)).mp w)), if_neg (by omega)]
            · rw [if_pos (show ¬ nI c = 3 from fun w => e3 ((nI_eq (b := 3) (by omega) (by omega)).mp w)), if_neg (by omega)]
end O2
