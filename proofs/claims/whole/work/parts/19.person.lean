/-! A PERSON: kind, got, owes, acted, gone, credits. A LAW: terms, worths, sorts, lapse -/
abbrev PS : Type := Nat × (Int32 × (Nat × (Nat × (Nat × List Nat))))
abbrev LW : Type := (Nat → Nat) × ((Nat → Nat) × ((Nat → Nat) × Nat))
abbrev pK (P : PS) : Nat := P.1
abbrev pG (P : PS) : Int32 := P.2.1
abbrev pO (P : PS) : Nat := P.2.2.1
abbrev pA (P : PS) : Nat := P.2.2.2.1
abbrev pZ (P : PS) : Nat := P.2.2.2.2.1
abbrev pC (P : PS) : List Nat := P.2.2.2.2.2
def kn (k t : Nat) : Nat := if k = 1 then (if 1 < t - 1 then t - 1 else 1) else if 1 < t then t else 1
def km (k : Nat) : Nat := if k = 3 ∨ k = 4 then 1 else 0
def ko (k : Nat) : Nat := if k = 4 then 1 else 2
def lw_ok (l : LW) : Prop := (∀ d, d < 4 → (1 ≤ l.1 d ∧ l.1 d ≤ 9) ∧ l.2.1 d ≤ 9 ∧ l.2.2.1 d < 8) ∧ l.2.2.2 ≤ 9
def pOk (P : PS) : Prop := pK P < 5 ∧ pO P ≤ 18 ∧ pA P ≤ 1 ∧ pZ P ≤ 1
def cP (x : am_X) (i : Nat) (P : PS) : Prop := pOk P ∧ xK x i = pK P ∧ xF x 4 2 i = pG P ∧ xF x 4 3 i = nI (pO P) ∧ xF x 4 4 i = nI (pA P) ∧ xF x 4 5 i = nI (pZ P) ∧ cC x i (pC P)
def fP (i : Nat) (x x' : am_X) : Prop := (∀ t k j, ¬ ((t = 4 ∨ t = 5) ∧ j = i) → xF x' t k j = xF x t k j) ∧ (∀ t j q, ¬ (t = 12 ∧ j = i) → xA x' t j q = xA x t j q) ∧ (∀ j, j ≠ i → xK x' j = xK x j) ∧ x'.2.2.2 = x.2.2.2
theorem fP.rf {i : Nat} {x : am_X} : fP i x x := ⟨fun _ _ _ _ => rfl, fun _ _ _ _ => rfl, fun _ _ => rfl, rfl⟩
theorem fP.tr {i : Nat} {x y z : am_X} (h : fP i x y) (h' : fP i y z) : fP i x z := ⟨fun t k j hn => (h'.1 t k j hn).trans (h.1 t k j hn), fun t j q hn => (h'.2.1 t j q hn).trans (h.2.1 t j q hn), fun j hj => (h'.2.2.1 j hj).trans (h.2.2.1 j hj), h'.2.2.2.trans h.2.2.2⟩
theorem fC.fP {i : Nat} {x x' : am_X} (h : fC i x x') : fP i x x' := ⟨fun t k j hn => h.1 t k j (fun e => hn ⟨Or.inr e.1, e.2.2⟩), h.2.1, fun j _ => congrFun (congrArg Prod.fst h.2.2) j, congrArg Prod.snd h.2.2⟩
theorem fP.put {i k : Nat} {x : am_X} {v : Int32} : fP i x (sF x 4 k i v) := ⟨fun t k' j hn => by rw [xF_sF, if_neg (fun e => hn ⟨Or.inl e.1, e.2.2⟩)], fun _ _ _ _ => rfl, fun _ _ => rfl, rfl⟩
theorem fP.puts {i : Nat} {x : am_X} {v : Int32} : fP i x (sF x 5 1 i v) := ⟨fun t k' j hn => by rw [xF_sF, if_neg (fun e => hn ⟨Or.inr e.1, e.2.2⟩)], fun _ _ _ _ => rfl, fun _ _ => rfl, rfl⟩
theorem fP.kind {i v : Nat} {x : am_X} : fP i x (sK x i v) := ⟨fun _ _ _ _ => rfl, fun _ _ _ _ => rfl, fun j hj => by rw [xK_sK, if_neg hj], rfl⟩
theorem fP.cC {i j : Nat} {x x' : am_X} {cs : List Nat} (h : fP i x x') (hij : j ≠ i) (hc : cC x j cs) : cC x' j cs := ⟨by rw [h.1 _ _ _ (fun e => hij e.2)]; exact hc.1, hc.2.1, hc.2.2.1, fun k hk => by rw [h.2.1 _ _ _ (fun e => hij e.2)]; exact hc.2.2.2 k hk⟩
theorem fP.cP {i j : Nat} {x x' : am_X} {P : PS} (h : fP i x x') (hij : j ≠ i) (hc : cP x j P) : cP x' j P := ⟨hc.1, by rw [h.2.2.1 _ hij]; exact hc.2.1, by rw [h.1 _ _ _ (fun e => hij e.2)]; exact hc.2.2.1, by rw [h.1 _ _ _ (fun e => hij e.2)]; exact hc.2.2.2.1, by rw [h.1 _ _ _ (fun e => hij e.2)]; exact hc.2.2.2.2.1, by rw [h.1 _ _ _ (fun e => hij e.2)]; exact hc.2.2.2.2.2.1, h.cC hij hc.2.2.2.2.2.2⟩
def cL (x : am_X) (j : Nat) (l : LW) : Prop := (∀ d, d < 4 → xA x 9 j d = nI (l.1 d) ∧ xA x 10 j d = nI (l.2.1 d) ∧ xA x 11 j d = nI (l.2.2.1 d)) ∧ xF x 2 3 j = nI l.2.2.2
theorem fP.cL {i j : Nat} {x x' : am_X} {l : LW} (h : fP i x x') (hc : cL x j l) : cL x' j l := ⟨fun d hd => ⟨by rw [h.2.1 _ _ _ (fun e => by cases e.1)]; exact (hc.1 d hd).1, by rw [h.2.1 _ _ _ (fun e => by cases e.1)]; exact (hc.1 d hd).2.1, by rw [h.2.1 _ _ _ (fun e => by cases e.1)]; exact (hc.1 d hd).2.2⟩, by rw [h.1 _ _ _ (fun e => by omega)]; exact hc.2⟩
theorem S_isDeed {n d : Nat} (x : am_X) (hd : d < 4) : f_X8_isDeed n (nI d) x = some (1, x) := by
  unfold f_X8_isDeed
  rw [if_neg (nI_pos (by omega)), li4, if_neg (nI_ge hd (by omega))]
theorem S_termOf {n d j : Nat} {x : am_X} {l : LW} (hL : cL x j l) (hd : d < 4) : f_X3_termOf n j (nI d) x = some (nI (l.1 d), x) := by
  unfold f_X3_termOf
  rw [S_isDeed x hd, ob, if_neg n10, if_pos (am_inB_nI (by omega) (by omega)), nI_c (by omega), (hL.1 d hd).1]
theorem S_worthOf {n d j : Nat} {x : am_X} {l : LW} (hL : cL x j l) (hd : d < 4) : f_X3_worthOf n j (nI d) x = some (nI (l.2.1 d), x) := by
  unfold f_X3_worthOf
  rw [S_isDeed x hd, ob, if_neg n10, if_pos (am_inB_nI (by omega) (by omega)), nI_c (by omega), (hL.1 d hd).2.1]
theorem S_sortsOf {n d j : Nat} {x : am_X} {l : LW} (hL : cL x j l) (hd : d < 4) : f_X3_sortsOf n j (nI d) x = some (nI (l.2.2.1 d), x) := by
  unfold f_X3_sortsOf
  rw [S_isDeed x hd, ob, if_neg n10, if_pos (am_inB_nI (by omega) (by omega)), nI_c (by omega), (hL.1 d hd).2.2]
theorem kn_tab : ∀ k, k < 5 → ∀ t, 1 ≤ t → t < 10 → (if (1 : Int32) < (nI t - (List.getD [0, 1, 0, 0, 0] k 0)) then (nI t - (List.getD [0, 1, 0, 0, 0] k 0)) else (1 : Int32)) = nI (kn k t) := by
  have h : ∀ t, t < 10 → 1 ≤ t → ∀ k, k < 5 → (if (1 : Int32) < (nI t - (List.getD [0, 1, 0, 0, 0] k 0)) then (nI t - (List.getD [0, 1, 0, 0, 0] k 0)) else (1 : Int32)) = nI (kn k t) := by decide +kernel
  exact fun k hk t h1 h2 => h t h2 h1 k hk
theorem S_needs {n k t : Nat} (x : am_X) (hk : k < 5) (h1 : 1 ≤ t) (h9 : t ≤ 9) : f_X2_needs n k (nI t) x = some (nI (kn k t), x) := by
  unfold f_X2_needs
  rw [kn_tab k hk t h1 (by omega)]
theorem kn_le {k t : Nat} (h9 : t ≤ 9) : 1 ≤ kn k t ∧ kn k t ≤ 9 := by
  unfold kn
  split <;> split <;> omega
theorem km_tab : ∀ k, k < 5 → (List.getD [0, 0, 0, 1, 1] k 0 : Int32) = nI (km k) := by decide +kernel
theorem S_gets {n k w : Nat} (x : am_X) (hk : k < 5) : f_X2_gets n k (nI w) x = some (nI (w + km k), x) := by
  unfold f_X2_gets
  rw [km_tab k hk, nI_add]
theorem ko_tab : ∀ k, k < 5 → (List.getD [2, 2, 2, 2, 1] k 0 : Int32) = nI (ko k) := by decide +kernel
theorem S_owesFor {n k t : Nat} (x : am_X) (hk : k < 5) : f_X2_owesFor n k (nI t) x = some (nI (t * ko k), x) := by
  unfold f_X2_owesFor
  rw [ko_tab k hk, pk_mul]
theorem z0 {a : Nat} (h : a < 2147483648) : nI a = 0 ↔ a = 0 := nI_eq (b := 0) h (by omega)
/-- COVERED, by what counts from the week fw on -/
def pCv (l : LW) (d t : Nat) (fw : Int) (P : PS) : Bool := decide (pO P = 0) && decide (kn (pK P) t ≤ (cr_lap fw (pC P)).countP (cr_has (l.2.2.1 d)))
theorem cr_lap_count (fw : Int) (s : Nat) (cs : List Nat) : (cr_lap fw cs).countP (cr_has s) = cs.countP (fun c => decide (fw ≤ ((c / 4 : Nat) : Int)) && cr_has s c) := by
  unfold cr_lap
  rw [List.countP_filter]
  congr 1
  funext c
  rw [Bool.and_comm]
theorem cr_lap_0 (cs : List Nat) : cr_lap 0 cs = cs := by
  unfold cr_lap
  rw [List.filter_eq_self]
  intro c _
  simp only [decide_eq_true_eq]
  omega
theorem cr_count_le (s : Nat) (cs : List Nat) : cs.countP (cr_has s) ≤ cs.length := List.countP_le_length
theorem cr_lap_len (fw : Int) (cs : List Nat) : (cr_lap fw cs).length ≤ cs.length := List.length_filter_le _ _
theorem S_isCovered {n i j d t : Nat} {fw : Int32} {x : am_X} {P : PS} {l : LW} (hn : 100 ≤ n) (hP : cP x i P) (hL : cL x j l) (hl : lw_ok l) (hd : d < 4) (h1 : 1 ≤ t) (h9 : t ≤ 9) (f1 : -100000 ≤ fw.toInt) (f2 : fw.toInt ≤ 100000) : f_X6_isCovered n i (nI d) (nI t) fw j x = some ((if pCv l d t fw.toInt P = true then 1 else 0), x) := by
  obtain ⟨⟨k5, o9, a1, z1⟩, e1, e2, e3, e4, e5, e6⟩ := hP
  unfold f_X6_isCovered pCv
  rw [e3]
  by_cases ho : pO P = 0
  · rw [if_neg (fun w => w ((z0 (by omega)).mpr ho)), S_sortsOf hL hd, ob, S_howMany hn e6 (hl.1 d hd).2.2 f1 f2, ob, e1, S_needs x k5 h1 h9, ob, cr_lap_count]
    have hk := (kn_le (k := pK P) h9).2
    have hc := e6.2.1
    have hcc : (pC P).countP (fun c => decide (fw.toInt ≤ ((c / 4 : Nat) : Int)) && cr_has (l.2.2.1 d) c) ≤ (pC P).length := List.countP_le_length
    by_cases hlt : kn (pK P) t ≤ (pC P).countP (fun c => decide (fw.toInt ≤ ((c / 4 : Nat) : Int)) && cr_has (l.2.2.1 d) c)
    · rw [if_neg (nI_nlt hlt (by omega)), if_pos (by simp only [Bool.and_eq_true, decide_eq_true_eq]; exact ⟨ho, hlt⟩)]
    · rw [if_pos (nI_lt (by omega) (by omega)), if_neg (by simp only [Bool.and_eq_true, decide_eq_true_eq]; exact fun w => hlt w.2)]
  · rw [if_pos (fun w => ho ((z0 (by omega)).mp w)), if_neg (by simp only [Bool.and_eq_true, decide_eq_true_eq]; exact fun w => ho w.1)]
/-- an ACT's number -/
def aOk (a : Nat) : Prop := a < 3 ∨ (10 ≤ a ∧ a < 14) ∨ (20 ≤ a ∧ a < 24)
theorem S_isServing {n a : Nat} (x : am_X) (ha : a < 100) : f_X8_isServing n (nI a) x = some ((if a < 3 then 1 else 0), x) := by
  unfold f_X8_isServing
  rw [if_neg (nI_pos (by omega)), li3]
  by_cases h : a < 3
  · rw [if_neg (nI_ge h (by omega)), if_pos h]
  · rw [if_pos (nI_le (by omega) (by omega)), if_neg h]
theorem S_isCoveredDeed {n a : Nat} (x : am_X) (ha : a < 100) : f_X8_isCoveredDeed n (nI a) x = some ((if 10 ≤ a ∧ a < 14 then 1 else 0), x) := by
  unfold f_X8_isCoveredDeed
  rw [show (10 : Int32) = nI 10 from rfl, show (14 : Int32) = nI 14 from rfl]
  by_cases h : a < 10
  · rw [if_pos (nI_lt h (by omega)), if_neg (by omega)]
  · rw [if_neg (nI_nlt (by omega) (by omega))]
    by_cases h2 : a < 14
    · rw [if_neg (nI_ge h2 (by omega)), if_pos ⟨by omega, h2⟩]
    · rw [if_pos (nI_le (by omega) (by omega)), if_neg (by omega)]
theorem S_isBareDeed {n a : Nat} (x : am_X) (ha : a < 100) : f_X8_isBareDeed n (nI a) x = some ((if 20 ≤ a ∧ a < 24 then 1 else 0), x) := by
  unfold f_X8_isBareDeed
  rw [show (20 : Int32) = nI 20 from rfl, show (24 : Int32) = nI 24 from rfl]
  by_cases h : a < 20
  · rw [if_pos (nI_lt h (by omega)), if_neg (by omega)]
  · rw [if_neg (nI_nlt (by omega) (by omega))]
    by_cases h2 : a < 24
    · rw [if_neg (nI_ge h2 (by omega)), if_pos ⟨by omega, h2⟩]
    · rw [if_pos (nI_le (by omega) (by omega)), if_neg (by omega)]
theorem a_mod {a : Nat} (ha : a < 100) : nI a - nI a / (10 : Int32) * (10 : Int32) = nI (a % 10) := nI_rem (d := 10) (by omega) (by omega) (by omega)
/-- MAY, but for what he did in this week -/
def pMay (l : LW) (a : Nat) (P : PS) : Bool := if a < 3 then true else if 10 ≤ a ∧ a < 14 then pCv l (a - 10) (l.1 (a - 10)) 0 P else decide (pO P = 0)
def pFree (l : LW) (a : Nat) (P : PS) : Bool := decide (pA P = 0) && pMay l a P
theorem bz_if (c : Prop) [Decidable c] : am_bz (if c then (1 : Int32) else 0) = true := by
  split <;> rfl
theorem S_isFreeTo {n i j a : Nat} {x : am_X} {P : PS} {l : LW} (hn : 100 ≤ n) (hP : cP x i P) (hL : cL x j l) (hl : lw_ok l) (ha : aOk a) : f_X6_isFreeTo n i (nI a) j x = some ((if pFree l a P = true then 1 else 0), x) := by
  have hP0 := hP
  obtain ⟨⟨k5, o9, a1, z1⟩, e1, e2, e3, e4, e5, e6⟩ := hP
  have ha' : a < 24 := by rcases ha with h | h | h <;> omega
  unfold f_X6_isFreeTo pFree pMay
  rw [e4]
  by_cases h0 : pA P = 0
  · rw [if_pos ((z0 (by omega)).mpr h0), S_isServing x (by omega), ob]
    by_cases h3 : a < 3
    · rw [if_pos h3, if_neg n10, if_pos (by simp [h0, h3])]
    · rw [if_neg h3, if_pos rfl, S_isCoveredDeed x (by omega), ob]
      by_cases h4 : 10 ≤ a ∧ a < 14
      · rw [if_pos h4, if_neg n10, a_mod (by omega), show a % 10 = a - 10 from by omega, S_termOf hL (by omega), ob, S_isCovered hn hP0 hL hl (by omega) (hl.1 _ (by omega)).1.1 (hl.1 _ (by omega)).1.2 (by decide) (by decide), ob, if_pos (bz_if _)]
        rw [if_neg h3, if_pos h4, show (0 : Int32).toInt = 0 from by decide]
        simp only [h0, decide_true, Bool.true_and]
      · rw [if_neg h4, if_pos rfl, e3, if_neg h3, if_neg h4]
        by_cases ho : pO P = 0
        · rw [if_neg (fun w => w ((z0 (by omega)).mpr ho)), if_pos (by simp [h0, ho])]
        · rw [if_pos (fun w => ho ((z0 (by omega)).mp w)), if_neg (by simp [ho])]
  · rw [if_neg (fun w => h0 ((z0 (by omega)).mp w)), if_neg (by simp [h0])]
/-- what an ACT GETS, what one OWES behind it, what his CREDITS are -/
def pGet (l : LW) (a : Nat) (P : PS) : Nat := if (10 ≤ a ∧ a < 14) ∨ (20 ≤ a ∧ a < 24) then l.2.1 (a % 10) + km (pK P) else 0
def pOwe (l : LW) (a : Nat) (P : PS) : Nat := if a < 3 then pO P - 1 else if 20 ≤ a ∧ a < 24 then l.1 (a % 10) * ko (pK P) else pO P
def pCrd (l : LW) (a w : Nat) (P : PS) : List Nat := if a < 3 then (if pO P = 0 then (if pK P = 2 then cr_giv (4 * w + a) (cr_giv (4 * w + a) (pC P)) else cr_giv (4 * w + a) (pC P)) else pC P) else if 10 ≤ a ∧ a < 14 then cr_rem (l.2.2.1 (a % 10)) (kn (pK P) (l.1 (a % 10))) (pC P) else pC P
theorem S_getsBy {n i j a : Nat} {x : am_X} {P : PS} {l : LW} (hk : xK x i = pK P) (k5 : pK P < 5) (hL : cL x j l) (ha : a < 24) : f_X6_getsBy n i (nI a) j x = some (nI (pGet l a P), x) := by
  have key : (10 ≤ a ∧ a < 14) ∨ (20 ≤ a ∧ a < 24) → b_X6_getsBy_14 n i (nI a) j x = some (nI (l.2.1 (a % 10) + km (pK P)), x) := by
    intro h
    unfold b_X6_getsBy_14
    rw [a_mod (by omega), S_worthOf hL (by omega), ob, hk, S_gets x k5, ob]
  unfold f_X6_getsBy pGet
  rw [S_isCoveredDeed x (by omega), ob]
  by_cases h1 : 10 ≤ a ∧ a < 14
  · rw [if_pos h1, if_pos n10, if_pos (Or.inl h1), key (Or.inl h1)]
  · rw [if_neg h1, if_neg (fun w => w rfl), S_isBareDeed x (by omega), ob]
    by_cases h2 : 20 ≤ a ∧ a < 24
    · rw [if_pos h2, if_neg n10, if_pos (Or.inr h2), key (Or.inr h2)]
    · rw [if_neg h2, if_pos rfl, if_neg (by omega)]
      rfl
theorem S_owesAfter {n i j a : Nat} {x : am_X} {P : PS} {l : LW} (hk : xK x i = pK P) (ho : xF x 4 3 i = nI (pO P)) (k5 : pK P < 5) (o9 : pO P ≤ 18) (hL : cL x j l) (ha : a < 24) : f_X6_owesAfter n i (nI a) j x = some (nI (pOwe l a P), x) := by
  unfold f_X6_owesAfter pOwe
  rw [S_isServing x (by omega), ob]
  by_cases h1 : a < 3
  · rw [if_pos h1, if_neg n10, if_pos h1, ho]
    have : ∀ o, o ≤ 18 → (if (0 : Int32) < (nI o - (1 : Int32)) then (nI o - (1 : Int32)) else (0 : Int32)) = nI (o - 1) := by decide +kernel
    rw [this _ o9]
  · rw [if_neg h1, if_pos rfl, S_isBareDeed x (by omega), ob, if_neg h1]
    by_cases h2 : 20 ≤ a ∧ a < 24
    · rw [if_pos h2, if_neg n10, if_pos h2, a_mod (by omega), S_termOf hL (by omega), ob, hk, S_owesFor x k5, ob]
    · rw [if_neg h2, if_pos rfl, if_neg h2, ho]
