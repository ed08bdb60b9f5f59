/-! the reading of a law -/
def dR (x z : am_X) (s r : Nat) (D : LW) : Prop := (s ≤ 6 ∧ r < 4) ∧ (xF x 1 3 0 = nI s ∧ xF x 1 4 0 = nI r ∧ xF z 32 20 0 = nI r) ∧ (∀ d, d < 4 → (d < r ∨ (d = r ∧ 1 ≤ s)) → xA x 9 1 d = nI (D.1 d) ∧ xA z 62 0 d = nI (D.1 d) ∧ 1 ≤ D.1 d ∧ D.1 d ≤ 9) ∧ (∀ d, d < 4 → (d < r ∨ (d = r ∧ 2 ≤ s)) → xA x 10 1 d = nI (D.2.1 d) ∧ xA z 63 0 d = nI (D.2.1 d) ∧ D.2.1 d ≤ 9) ∧ (∀ d, d < 4 → (d < r ∨ (d = r ∧ 3 ≤ s)) → xA x 11 1 d = nI (D.2.2.1 d) ∧ xA z 64 0 d = nI (D.2.2.1 d) ∧ D.2.2.1 d < 8) ∧ (1 ≤ s → s < 3 → xA x 11 1 r = nI 0) ∧ (5 ≤ s → r = 3) ∧ (s = 6 → xF x 2 3 1 = nI D.2.2.2 ∧ xF z 32 21 0 = nI D.2.2.2 ∧ D.2.2.2 ≤ 9)
def gC (x x' : am_X) : Prop := (∀ t k i, ¬ (t = 1 ∧ (k = 3 ∨ k = 4)) → ¬ (t = 2 ∧ k = 3 ∧ i = 1) → xF x' t k i = xF x t k i) ∧ (∀ t i q, ¬ ((t = 9 ∨ t = 10 ∨ t = 11) ∧ i = 1) → xA x' t i q = xA x t i q) ∧ x'.2.2 = x.2.2
def gM (z z' : am_X) : Prop := (∀ k, ¬ (18 ≤ k ∧ k ≤ 21) → xF z' 32 k 0 = xF z 32 k 0) ∧ (∀ t q, ¬ (62 ≤ t ∧ t ≤ 64) → xA z' t 0 q = xA z t 0 q)
theorem gC.rf {x : am_X} : gC x x := ⟨fun _ _ _ _ _ => rfl, fun _ _ _ _ => rfl, rfl⟩
theorem gC.tr {x y z : am_X} (h : gC x y) (h' : gC y z) : gC x z := ⟨fun t k i a b => (h'.1 t k i a b).trans (h.1 t k i a b), fun t i q a => (h'.2.1 t i q a).trans (h.2.1 t i q a), h'.2.2.trans h.2.2⟩
theorem gM.rf {z : am_X} : gM z z := ⟨fun _ _ => rfl, fun _ _ _ => rfl⟩
theorem gM.tr {x y z : am_X} (h : gM x y) (h' : gM y z) : gM x z := ⟨fun k a => (h'.1 k a).trans (h.1 k a), fun t q a => (h'.2 t q a).trans (h.2 t q a)⟩
theorem gC.eC {x x' : am_X} (h : gC x x') : eC x x' := by
  refine ⟨fun t k i o => h.1 t k i (fun e => ?_) (fun e => ?_), fun t i q o => h.2.1 t i q (fun e => ?_), fun i _ => congrFun (congrArg Prod.fst h.2.2) i, fun hk i => ?_⟩
  · unfold oF at o; omega
  · unfold oF at o; omega
  · unfold oA at o; omega
  · have : xK x' i = xK x i := congrFun (congrArg Prod.fst h.2.2) i
    rw [this]; exact hk i
theorem gM.eM {z z' : am_X} (h : gM z z') : eM z z' := ⟨fun k o => h.1 k (fun e => by unfold nF at o; omega), fun t q o => h.2 t q (fun e => by unfold nA at o; omega)⟩
theorem dig_int {c : Nat} (hc : c ≤ 126) : (nI c - (48 : Int32)).toInt = (c : Int) - 48 := pk_sub_toInt (b := 48) (by omega) (by omega)
theorem dig_nI {c : Nat} (h : 48 ≤ c) : nI c - (48 : Int32) = nI (c - 48) := nI_subi (b := 48) h
theorem dig_rg {c a b : Nat} (hc : c ≤ 126) : rg a b (nI c - (48 : Int32)) = decide (48 + a ≤ c ∧ c ≤ 48 + b) := by
  unfold rg
  rw [dig_int hc]
  by_cases e : 48 + a ≤ c ∧ c ≤ 48 + b
  · rw [decide_eq_true e, Bool.and_eq_true, decide_eq_true_eq, decide_eq_true_eq]
    omega
  · rw [decide_eq_false e, Bool.eq_false_iff]
    intro q
    rw [Bool.and_eq_true, decide_eq_true_eq, decide_eq_true_eq] at q
    omega
theorem or_tab : ∀ s, s < 8 → ∀ k, k < 3 → (nI s ||| ((1 : Int32) <<< (nI k &&& 31))) = nI (s ||| 2 ^ k) ∧ s ||| 2 ^ k < 8 := by decide
/-- a range from 1 on, as the class asks for it -/
theorem rg1_lt {α : Type} (v : Int32) (A B : α) : (if v < (1 : Int32) then A else if (9 : Int32) < v then A else B) = if rg 1 9 v = true then B else A := by
  have e1 : v < (1 : Int32) ↔ v.toInt < 1 := lt_nI (a := 1) (by omega)
  have e9 : (9 : Int32) < v ↔ (9 : Int) < v.toInt := nI_lt' (a := 9) (by omega)
  unfold rg
  by_cases a : v < (1 : Int32)
  · rw [if_pos a, if_neg]
    rw [e1] at a
    rw [Bool.and_eq_true, decide_eq_true_eq, decide_eq_true_eq]
    omega
  · rw [if_neg a]
    rw [e1] at a
    by_cases b : (9 : Int32) < v
    · rw [if_pos b, if_neg]
      rw [e9] at b
      rw [Bool.and_eq_true, decide_eq_true_eq, decide_eq_true_eq]
      omega
    · rw [if_neg b, if_pos]
      rw [e9] at b
      rw [Bool.and_eq_true, decide_eq_true_eq, decide_eq_true_eq]
      omega
theorem rg1_le {α : Type} (v : Int32) (A B : α) : (if v < (1 : Int32) then A else if v ≤ (9 : Int32) then B else A) = if rg 1 9 v = true then B else A := by
  have e1 : v < (1 : Int32) ↔ v.toInt < 1 := lt_nI (a := 1) (by omega)
  have e9 : v ≤ (9 : Int32) ↔ v.toInt ≤ (9 : Int) := le_nI (a := 9) (by omega)
  unfold rg
  by_cases a : v < (1 : Int32)
  · rw [if_pos a, if_neg]
    rw [e1] at a
    rw [Bool.and_eq_true, decide_eq_true_eq, decide_eq_true_eq]
    omega
  · rw [if_neg a]
    rw [e1] at a
    by_cases b : v ≤ (9 : Int32)
    · rw [if_pos b, if_pos]
      rw [e9] at b
      rw [Bool.and_eq_true, decide_eq_true_eq, decide_eq_true_eq]
      omega
    · rw [if_neg b, if_neg]
      rw [e9] at b
      rw [Bool.and_eq_true, decide_eq_true_eq, decide_eq_true_eq]
      omega
theorem rg0_lt {α : Type} (v : Int32) (A B : α) : (if v < 0 then A else if (9 : Int32) < v then A else B) = if rg 0 9 v = true then B else A := by
  have e9 : (9 : Int32) < v ↔ (9 : Int) < v.toInt := nI_lt' (a := 9) (by omega)
  unfold rg
  by_cases a : v < 0
  · rw [if_pos a, if_neg]
    rw [lt_z] at a
    rw [Bool.and_eq_true, decide_eq_true_eq, decide_eq_true_eq]
    omega
  · rw [if_neg a]
    rw [lt_z] at a
    by_cases b : (9 : Int32) < v
    · rw [if_pos b, if_neg]
      rw [e9] at b
      rw [Bool.and_eq_true, decide_eq_true_eq, decide_eq_true_eq]
      omega
    · rw [if_neg b, if_pos]
      rw [e9] at b
      rw [Bool.and_eq_true, decide_eq_true_eq, decide_eq_true_eq]
      omega
/-- one letter -/
def dStep (n s c : Nat) (x z : am_X) : Prop := (∃ x' z', f_X5_takes n 0 (nI c) x = some (0, x') ∧ f_X9_nextState n 0 (nI s) (nI c) z = some (-1, z') ∧ gC x x' ∧ gM z z') ∨ ∃ x' z' s' r' D', f_X5_takes n 0 (nI c) x = some (1, x') ∧ f_X9_nextState n 0 (nI s) (nI c) z = some (nI s', z') ∧ dR x' z' s' r' D' ∧ gC x x' ∧ gM z z'
theorem bz0 : am_bz 0 = true := rfl
theorem bz1 : am_bz 1 = true := rfl
section RD
variable {n c r : Nat} {x z : am_X} {D : LW}
theorem st_ne {a b : Nat} (h : a ≠ b) (ha : a < 100) (hb : b < 100) : ¬ nI a = nI b := fun e => h ((nI_eq (by omega) (by omega)).mp e)
theorem D_0 (hc : c ≤ 126) (h : dR x z 0 r D) : dStep n 0 c x z := by
  obtain ⟨⟨_, hr⟩, ⟨a1, a2, a3⟩, b1, b2, b3, b4, b5, b6⟩ := h
  unfold dStep f_X5_takes f_X9_nextState
  rw [a1, a3, if_pos (show nI 0 = 0 from rfl), if_pos (show nI 0 = 0 from rfl), if_pos (am_inB_nI hr (by omega)), nI_c (by omega), show (1 : Int32) = nI 1 from rfl, show (9 : Int32) = nI 9 from rfl, M_within _ _ (by omega) (by omega), ob]
  unfold f_X5_takesTerm
  rw [rg1_lt]
  cases e : rg 1 9 (nI c - (48 : Int32)) with
  | false =>
    exact Or.inl ⟨x, _, rfl, rfl, gC.rf, ⟨fun _ _ => rfl, fun t q o => by rw [xA_sA, if_neg (by omega)]⟩⟩
  | true =>
    rw [dig_rg hc, decide_eq_true_eq] at e
    rw [a2, S_isDeed x hr, ob, dig_nI (by omega)]
    have i4 : am_inB (nI r) 4 = true := am_inB_nI hr (by omega)
    rw [if_pos rfl, if_pos n10, a2, if_pos i4, if_pos i4, nI_c (by omega), ob, if_pos rfl, if_pos bz1, if_neg n10]
    refine Or.inr ⟨_, _, 1, r, (fun d => if d = r then c - 48 else D.1 d, D.2), rfl, rfl, ⟨⟨by omega, hr⟩, ⟨by rw [xF_sF, if_pos ⟨rfl, rfl, rfl⟩]; rfl, by rw [xF_sF, if_neg (by omega)]; exact a2, a3⟩, fun d hd hdr => ?_, fun d hd hdr => ?_, fun d hd hdr => ?_, fun _ _ => ?_, fun q => absurd q (by omega), fun q => absurd q (by omega)⟩, ⟨fun t k i a b => by rw [xF_sF, if_neg (by omega)]; rfl, fun t i q a => by rw [xA_sF, xA_sA, if_neg (by omega), xA_sA, if_neg (by omega)], rfl⟩, ⟨fun _ _ => rfl, fun t q o => by rw [xA_sA, if_neg (by omega)]⟩⟩
    · dsimp only
      by_cases ed : d = r
      · rw [if_pos ed, ed]
        exact ⟨by rw [xA_sF, xA_sA, if_neg (by omega), xA_sA, if_pos ⟨rfl, rfl, rfl⟩], by rw [xA_sA, if_pos ⟨rfl, rfl, rfl⟩], by omega, by omega⟩
      · rw [if_neg ed]
        have := b1 d hd (by omega)
        exact ⟨by rw [xA_sF, xA_sA, if_neg (by omega), xA_sA, if_neg (by omega)]; exact this.1, by rw [xA_sA, if_neg (by omega)]; exact this.2.1, this.2.2⟩
    · have := b2 d hd (by omega)
      exact ⟨by rw [xA_sF, xA_sA, if_neg (by omega), xA_sA, if_neg (by omega)]; exact this.1, by rw [xA_sA, if_neg (by omega)]; exact this.2.1, this.2.2⟩
    · have := b3 d hd (by omega)
      exact ⟨by rw [xA_sF, xA_sA, if_neg (by omega), xA_sA, if_neg (by omega)]; exact this.1, by rw [xA_sA, if_neg (by omega)]; exact this.2.1, this.2.2⟩
    · rw [xA_sF, xA_sA, if_pos ⟨rfl, rfl, rfl⟩]; rfl
theorem D_1 (hc : c ≤ 126) (h : dR x z 1 r D) : dStep n 1 c x z := by
  obtain ⟨⟨_, hr⟩, ⟨a1, a2, a3⟩, b1, b2, b3, b4, b5, b6⟩ := h
  unfold dStep f_X5_takes f_X9_nextState
  rw [a1, a3, if_neg (show ¬ nI 1 = 0 from n10), if_neg (show ¬ nI 1 = 0 from n10), if_pos (show nI 1 = 1 from rfl), if_pos (show nI 1 = 1 from rfl), if_pos (am_inB_nI hr (by omega)), nI_c (by omega), show (9 : Int32) = nI 9 from rfl, W_0 _ _ (by omega), ob]
  unfold f_X5_takesWorth
  rw [rg0_lt]
  cases e : rg 0 9 (nI c - (48 : Int32)) with
  | false =>
    exact Or.inl ⟨x, _, rfl, rfl, gC.rf, ⟨fun _ _ => rfl, fun t q o => by rw [xA_sA, if_neg (by omega)]⟩⟩
  | true =>
    rw [dig_rg hc, decide_eq_true_eq] at e
    rw [a2, S_isDeed x hr, ob, dig_nI (by omega)]
    have i4 : am_inB (nI r) 4 = true := am_inB_nI hr (by omega)
    rw [if_pos rfl, if_pos n10, a2, if_pos i4, nI_c (by omega), ob, if_pos rfl, if_pos bz1, if_neg n10]
    refine Or.inr ⟨_, _, 2, r, (D.1, (fun d => if d = r then c - 48 else D.2.1 d, D.2.2)), rfl, rfl, ⟨⟨by omega, hr⟩, ⟨by rw [xF_sF, if_pos ⟨rfl, rfl, rfl⟩]; rfl, by rw [xF_sF, if_neg (by omega)]; exact a2, a3⟩, fun d hd hdr => ?_, fun d hd hdr => ?_, fun d hd hdr => ?_, fun _ _ => ?_, fun q => absurd q (by omega), fun q => absurd q (by omega)⟩, ⟨fun t k i a b => by rw [xF_sF, if_neg (by omega)]; rfl, fun t i q a => by rw [xA_sF, xA_sA, if_neg (by omega)], rfl⟩, ⟨fun _ _ => rfl, fun t q o => by rw [xA_sA, if_neg (by omega)]⟩⟩
    · have := b1 d hd (by omega)
      exact ⟨by rw [xA_sF, xA_sA, if_neg (by omega)]; exact this.1, by rw [xA_sA, if_neg (by omega)]; exact this.2.1, this.2.2⟩
    · dsimp only
      by_cases ed : d = r
      · rw [if_pos ed, ed]
        exact ⟨by rw [xA_sF, xA_sA, if_pos ⟨rfl, rfl, rfl⟩], by rw [xA_sA, if_pos ⟨rfl, rfl, rfl⟩], by omega⟩
      · rw [if_neg ed]
        have := b2 d hd (by omega)
        exact ⟨by rw [xA_sF, xA_sA, if_neg (by omega)]; exact this.1, by rw [xA_sA, if_neg (by omega)]; exact this.2.1, this.2.2⟩
    · have := b3 d hd (by omega)
      exact ⟨by rw [xA_sF, xA_sA, if_neg (by omega)]; exact this.1, by rw [xA_sA, if_neg (by omega)]; exact this.2.1, this.2.2⟩
    · rw [xA_sF, xA_sA, if_neg (by omega)]; exact b4 (by omega) (by omega)
theorem D_2 (hc : c ≤ 126) (h : dR x z 2 r D) : dStep n 2 c x z := by
  obtain ⟨⟨_, hr⟩, ⟨a1, a2, a3⟩, b1, b2, b3, b4, b5, b6⟩ := h
  unfold dStep f_X5_takes f_X9_nextState
  rw [a1, a3, if_neg (show ¬ nI 2 = 0 from by decide), if_neg (show ¬ nI 2 = 0 from by decide), if_neg (show ¬ nI 2 = 1 from by decide), if_neg (show ¬ nI 2 = 1 from by decide), if_pos (show nI 2 = 2 from rfl), if_pos (show nI 2 = 2 from rfl), if_pos (am_inB_nI hr (by omega)), nI_c (by omega)]
  unfold f_X5_takesColon
  by_cases e : nI c = (58 : Int32)
  · rw [if_pos e, ob, if_pos bz1, if_neg (fun q => q e)]
    refine Or.inr ⟨_, _, 3, r, (D.1, (D.2.1, (fun d => if d = r then 0 else D.2.2.1 d, D.2.2.2))), rfl, rfl, ⟨⟨by omega, hr⟩, ⟨by rw [xF_sF, if_pos ⟨rfl, rfl, rfl⟩]; rfl, by rw [xF_sF, if_neg (by omega)]; exact a2, a3⟩, fun d hd hdr => ?_, fun d hd hdr => ?_, fun d hd hdr => ?_, fun _ q => absurd q (by omega), fun q => absurd q (by omega), fun q => absurd q (by omega)⟩, ⟨fun t k i a b => by rw [xF_sF, if_neg (by omega)], fun t i q a => rfl, rfl⟩, ⟨fun _ _ => rfl, fun t q o => by rw [xA_sA, if_neg (by omega)]⟩⟩
    · have := b1 d hd (by omega)
      exact ⟨this.1, by rw [xA_sA, if_neg (by omega)]; exact this.2.1, this.2.2⟩
    · have := b2 d hd (by omega)
      exact ⟨this.1, by rw [xA_sA, if_neg (by omega)]; exact this.2.1, this.2.2⟩
    · dsimp only
      by_cases ed : d = r
      · rw [if_pos ed, ed]
        exact ⟨b4 (by omega) (by omega), by rw [xA_sA, if_pos ⟨rfl, rfl, rfl⟩]; rfl, by omega⟩
      · rw [if_neg ed]
        have := b3 d hd (by omega)
        exact ⟨this.1, by rw [xA_sA, if_neg (by omega)]; exact this.2.1, this.2.2⟩
  · rw [if_neg e, ob, if_pos bz0, if_pos e]
    exact Or.inl ⟨x, _, rfl, rfl, gC.rf, ⟨fun _ _ => rfl, fun t q o => by rw [xA_sA, if_neg (by omega)]⟩⟩
/-- a sort: it is taken by both, or by neither -/
theorem D_sort {s : Nat} (hs : s = 3 ∨ s = 4) (hc : c ≤ 126) (h : dR x z s r D) : (f_X5_takesSort n 0 (nI c - (48 : Int32)) x = some (0, x) ∧ f_X9_sortState n 0 (nI s) (nI c) (nI c - (48 : Int32)) z = b_X9_sortState_42 n 0 (nI s) (nI c) z) ∨ ∃ x' z' D', f_X5_takesSort n 0 (nI c - (48 : Int32)) x = some (1, x') ∧ f_X9_sortState n 0 (nI s) (nI c) (nI c - (48 : Int32)) z = some (nI 4, z') ∧ dR x' z' 4 r D' ∧ gC x x' ∧ gM z z' := by
  obtain ⟨⟨_, hr⟩, ⟨a1, a2, a3⟩, b1, b2, b3, b4, b5, b6⟩ := h
  have i4 : am_inB (nI r) 4 = true := am_inB_nI hr (by omega)
  have h8 := b3 r hr (by omega)
  unfold f_X5_takesSort f_X9_sortState
  rw [show (3 : Int32) = nI (2 + 1) from rfl, rg_ge _ 2 (by omega), show (2 : Int32) = nI 2 from rfl, W_0 _ _ (by omega), ob]
  cases e : rg 0 2 (nI c - (48 : Int32)) with
  | false => exact Or.inl ⟨rfl, rfl⟩
  | true =>
    rw [dig_rg hc, decide_eq_true_eq] at e
    rw [if_pos rfl, if_pos rfl, if_neg n10, a2, a3, S_isDeed x hr, ob, if_neg n10, dig_nI (by omega)]
    dsimp only
    simp only [a2, i4, ↓reduceIte]
    rw [nI_c (by omega), h8.1, h8.2.1, M_has z h8.2.2 (by omega), ob]
    obtain ⟨o1, o2⟩ := or_tab _ h8.2.2 (c - 48) (by omega)
    cases eb : (D.2.2.1 r).testBit (c - 48) with
    | true =>
      rw [if_neg (show ¬ _ from fun q => by rw [(cr_bit _ h8.2.2 (c - 48) (by omega)).mp q] at eb; cases eb), if_pos rfl, if_pos n10]
      exact Or.inl ⟨rfl, rfl⟩
    | false =>
      rw [if_pos ((cr_bit _ h8.2.2 (c - 48) (by omega)).mpr eb), if_neg (show ¬ false = true from Bool.false_ne_true), if_neg (fun q => q rfl)]
      dsimp only
      rw [a3, if_pos i4, if_pos i4, nI_c (by omega), h8.2.1, o1]
      refine Or.inr ⟨_, _, (D.1, (D.2.1, (fun d => if d = r then D.2.2.1 r ||| 2 ^ (c - 48) else D.2.2.1 d, D.2.2.2))), rfl, rfl, ⟨⟨by omega, hr⟩, ⟨by rw [xF_sF, if_pos ⟨rfl, rfl, rfl⟩]; rfl, by rw [xF_sF, if_neg (by omega)]; exact a2, a3⟩, fun d hd hdr => ?_, fun d hd hdr => ?_, fun d hd hdr => ?_, fun _ q => absurd q (by omega), fun q => absurd q (by omega), fun q => absurd q (by omega)⟩, ⟨fun t k i a b => by rw [xF_sF, if_neg (by omega)]; rfl, fun t i q a => by rw [xA_sF, xA_sA, if_neg (by omega)], rfl⟩, ⟨fun _ _ => rfl, fun t q o => by rw [xA_sA, if_neg (by omega)]⟩⟩
      · have := b1 d hd (by omega)
        exact ⟨by rw [xA_sF, xA_sA, if_neg (by omega)]; exact this.1, by rw [xA_sA, if_neg (by omega)]; exact this.2.1, this.2.2⟩
      · have := b2 d hd (by omega)
        exact ⟨by rw [xA_sF, xA_sA, if_neg (by omega)]; exact this.1, by rw [xA_sA, if_neg (by omega)]; exact this.2.1, this.2.2⟩
      · dsimp only
        by_cases ed : d = r
        · rw [if_pos ed, ed]
          exact ⟨by rw [xA_sF, xA_sA, if_pos ⟨rfl, rfl, rfl⟩], by rw [xA_sA, if_pos ⟨rfl, rfl, rfl⟩], o2⟩
        · rw [if_neg ed]
          have := b3 d hd (by omega)
          exact ⟨by rw [xA_sF, xA_sA, if_neg (by omega)]; exact this.1, by rw [xA_sA, if_neg (by omega)]; exact this.2.1, this.2.2⟩
theorem D_3 (hc : c ≤ 126) (h : dR x z 3 r D) : dStep n 3 c x z := by
  have a1 := h.2.1.1
  unfold dStep f_X5_takes f_X9_nextState b_X9_nextState_118
  rw [a1, if_neg (show ¬ nI 3 = 0 from by decide), if_neg (show ¬ nI 3 = 0 from by decide), if_neg (show ¬ nI 3 = 1 from by decide), if_neg (show ¬ nI 3 = 1 from by decide), if_neg (show ¬ nI 3 = 2 from by decide), if_neg (show ¬ nI 3 = 2 from by decide), if_pos (show nI 3 = 3 from rfl), if_pos (show nI 3 = 3 from rfl)]
  rcases D_sort (n := n) (Or.inl rfl) hc h with ⟨g1, g2⟩ | ⟨x', z', D', g1, g2, g3, g4, g5⟩
  · rw [g1, g2, ob, if_pos bz0]
    unfold b_X9_sortState_42
    rw [if_neg (fun q => q rfl), ob]
    exact Or.inl ⟨x, z, rfl, rfl, gC.rf, gM.rf⟩
  · rw [g1, g2, ob, if_pos bz1, ob]
    exact Or.inr ⟨x', z', 4, r, D', rfl, rfl, g3, g4, g5⟩
theorem D_4 (hc : c ≤ 126) (h : dR x z 4 r D) : dStep n 4 c x z := by
  have h' := h
  obtain ⟨⟨_, hr⟩, ⟨a1, a2, a3⟩, b1, b2, b3, b4, b5, b6⟩ := h'
  unfold dStep f_X5_takes f_X9_nextState b_X9_nextState_118
  rw [a1, if_neg (show ¬ nI 4 = 0 from by decide), if_neg (show ¬ nI 4 = 0 from by decide), if_neg (show ¬ nI 4 = 1 from by decide), if_neg (show ¬ nI 4 = 1 from by decide), if_neg (show ¬ nI 4 = 2 from by decide), if_neg (show ¬ nI 4 = 2 from by decide), if_neg (show ¬ nI 4 = 3 from by decide), if_neg (show ¬ nI 4 = 3 from by decide), if_pos (show nI 4 = 4 from rfl), if_pos (show nI 4 = 4 from rfl)]
  rcases D_sort (n := n) (Or.inr rfl) hc h with ⟨g1, g2⟩ | ⟨x', z', D', g1, g2, g3, g4, g5⟩
  · rw [g1, g2, ob, if_neg (fun q => q rfl)]
    unfold b_X9_sortState_42 b_X9_sortState_75 f_X5_takesEndOfDeed b_X5_takesEndOfDeed_13 b_X5_takesEndOfDeed_26 b_X5_takesEndOfDeed_41
    dsimp only
    rw [if_pos (show ¬ nI 4 = 3 from by decide), a2, a3]
    by_cases e3 : r = 3
    · have e3' : nI r = (3 : Int32) := by rw [e3]; rfl
      rw [if_neg (show ¬ ¬ nI r = (3 : Int32) from fun q => q e3'), if_neg n10, if_neg n10, if_neg n10, if_pos (show (3 : Int32) ≤ nI r from by rw [e3]; decide), if_neg (show ¬ ¬ nI r = (3 : Int32) from fun q => q e3')]
      have go : (if ¬ nI c = (47 : Int32) then (if ¬ nI c = (59 : Int32) then some ((-1 : Int32), z) else some ((5 : Int32), z)) else (if ¬ nI c = (59 : Int32) then some ((-1 : Int32), z) else some ((5 : Int32), z))) = (if ¬ nI c = (59 : Int32) then some ((-1 : Int32), z) else some ((5 : Int32), z)) := by split <;> rfl
      rw [go]
      by_cases e : nI c = (59 : Int32)
      · rw [if_pos e, ob, if_neg n10, if_neg (fun q => q e), ob]
        refine Or.inr ⟨_, z, 5, r, D, rfl, rfl, ⟨⟨by omega, hr⟩, ⟨by rw [xF_sF, if_neg (by omega), xF_sF, if_pos ⟨rfl, rfl, rfl⟩]; rfl, by rw [xF_sF, if_pos ⟨rfl, rfl, rfl⟩], a3⟩, fun d hd hdr => b1 d hd (by omega), fun d hd hdr => b2 d hd (by omega), fun d hd hdr => b3 d hd (by omega), fun _ q => absurd q (by omega), fun _ => e3, fun q => absurd q (by omega)⟩, ⟨fun t k i a b => by rw [xF_sF, if_neg (by omega), xF_sF, if_neg (by omega)], fun t i q a => rfl, rfl⟩, gM.rf⟩
      · rw [if_neg e, ob, if_pos rfl, if_pos e, ob]
        exact Or.inl ⟨x, z, rfl, rfl, gC.rf, gM.rf⟩
    · have e3' : ¬ nI r = (3 : Int32) := fun q => e3 ((nI_eq (b := 3) (by omega) (by omega)).mp q)
      rw [if_pos e3', if_pos rfl, if_pos rfl, if_neg (show ¬ (3 : Int32) ≤ nI r from nI_ge (b := 3) (by omega) (by omega)), if_pos e3']
      have go : (if ¬ nI c = (59 : Int32) then some ((-1 : Int32), z) else some ((-1 : Int32), z)) = some ((-1 : Int32), z) := by split <;> rfl
      rw [go]
      by_cases e : nI c = (47 : Int32)
      · rw [if_pos e, if_pos rfl, ob, if_neg n10, if_neg (fun q => q e), ob, show nI r + (1 : Int32) = nI (r + 1) from nI_add ..]
        refine Or.inr ⟨_, _, 0, r + 1, D, rfl, rfl, ⟨⟨by omega, by omega⟩, ⟨by rw [xF_sF, if_neg (by omega), xF_sF, if_pos ⟨rfl, rfl, rfl⟩]; rfl, by rw [xF_sF, if_pos ⟨rfl, rfl, rfl⟩], by rw [xF_sF, if_pos ⟨rfl, rfl, rfl⟩]⟩, fun d hd hdr => b1 d hd (by omega), fun d hd hdr => b2 d hd (by omega), fun d hd hdr => b3 d hd (by omega), fun q _ => absurd q (by omega), fun q => absurd q (by omega), fun q => absurd q (by omega)⟩, ⟨fun t k i a b => by rw [xF_sF, if_neg (by omega), xF_sF, if_neg (by omega)], fun t i q a => rfl, rfl⟩, ⟨fun k o => by rw [xF_sF, if_neg (by omega)], fun t q o => rfl⟩⟩
      · rw [if_neg e, ob, if_pos rfl, if_pos e, ob]
        exact Or.inl ⟨x, z, rfl, rfl, gC.rf, gM.rf⟩
  · rw [g1, g2, ob, if_pos n10, ob]
    exact Or.inr ⟨x', z', 4, r, D', rfl, rfl, g3, g4, g5⟩
theorem D_5 (hc : c ≤ 126) (h : dR x z 5 r D) : dStep n 5 c x z := by
  obtain ⟨⟨_, hr⟩, ⟨a1, a2, a3⟩, b1, b2, b3, b4, b5, b6⟩ := h
  unfold dStep f_X5_takes f_X9_nextState
  rw [a1, if_neg (show ¬ nI 5 = 0 from by decide), if_neg (show ¬ nI 5 = 0 from by decide), if_neg (show ¬ nI 5 = 1 from by decide), if_neg (show ¬ nI 5 = 1 from by decide), if_neg (show ¬ nI 5 = 2 from by decide), if_neg (show ¬ nI 5 = 2 from by decide), if_neg (show ¬ nI 5 = 3 from by decide), if_neg (show ¬ nI 5 = 3 from by decide), if_neg (show ¬ nI 5 = 4 from by decide), if_neg (show ¬ nI 5 = 4 from by decide), if_pos (show nI 5 = 5 from rfl), if_pos (show nI 5 = 5 from rfl), show (1 : Int32) = nI 1 from rfl, show (9 : Int32) = nI 9 from rfl, M_within _ _ (by omega) (by omega), ob]
  unfold f_X5_takesLapse
  rw [rg1_le]
  cases e : rg 1 9 (nI c - (48 : Int32)) with
  | false =>
    exact Or.inl ⟨x, _, rfl, rfl, gC.rf, ⟨fun k o => by rw [xF_sF, if_neg (by omega)], fun t q o => rfl⟩⟩
  | true =>
    rw [dig_rg hc, decide_eq_true_eq] at e
    rw [dig_nI (by omega), if_pos rfl, ob, if_pos bz1, if_pos rfl, if_neg n10]
    refine Or.inr ⟨_, _, 6, r, (D.1, (D.2.1, (D.2.2.1, c - 48))), rfl, rfl, ⟨⟨by omega, hr⟩, ⟨by rw [xF_sF, if_pos ⟨rfl, rfl, rfl⟩]; rfl, by rw [xF_sF, if_neg (by omega), xF_sF, if_neg (by omega)]; exact a2, by rw [xF_sF, if_neg (by omega)]; exact a3⟩, fun d hd hdr => b1 d hd (by omega), fun d hd hdr => b2 d hd (by omega), fun d hd hdr => b3 d hd (by omega), fun _ q => absurd q (by omega), fun _ => b5 (by omega), fun _ => ⟨by rw [xF_sF, if_neg (by omega), xF_sF, if_pos ⟨rfl, rfl, rfl⟩], by rw [xF_sF, if_pos ⟨rfl, rfl, rfl⟩], by show c - 48 ≤ 9; omega⟩⟩, ⟨fun t k i a b => by rw [xF_sF, if_neg (by omega), xF_sF, if_neg (by omega)], fun t i q a => rfl, rfl⟩, ⟨fun k o => by rw [xF_sF, if_neg (by omega)], fun t q o => rfl⟩⟩
theorem D_6 (h : dR x z 6 r D) : dStep n 6 c x z := by
  have a1 := h.2.1.1
  unfold dStep f_X5_takes f_X9_nextState
  rw [a1, if_neg (show ¬ nI 6 = 0 from by decide), if_neg (show ¬ nI 6 = 0 from by decide), if_neg (show ¬ nI 6 = 1 from by decide), if_neg (show ¬ nI 6 = 1 from by decide), if_neg (show ¬ nI 6 = 2 from by decide), if_neg (show ¬ nI 6 = 2 from by decide), if_neg (show ¬ nI 6 = 3 from by decide), if_neg (show ¬ nI 6 = 3 from by decide), if_neg (show ¬ nI 6 = 4 from by decide), if_neg (show ¬ nI 6 = 4 from by decide), if_neg (show ¬ nI 6 = 5 from by decide), if_neg (show ¬ nI 6 = 5 from by decide)]
  exact Or.inl ⟨x, z, rfl, rfl, gC.rf, gM.rf⟩
theorem D_step {s : Nat} (hc : c ≤ 126) (h : dR x z s r D) : dStep n s c x z := by
  have := h.1.1
  rcases (show s = 0 ∨ s = 1 ∨ s = 2 ∨ s = 3 ∨ s = 4 ∨ s = 5 ∨ s = 6 by omega) with e | e | e | e | e | e | e <;> subst e
  · exact D_0 hc h
  · exact D_1 hc h
  · exact D_2 hc h
  · exact D_3 hc h
  · exact D_4 hc h
  · exact D_5 hc h
  · exact D_6 h
end RD
