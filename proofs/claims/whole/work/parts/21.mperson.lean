/-! A PERSON of the reference -/
def mQ (z : am_X) (p : Nat) (P : PS) : Prop := pK P < 5 ∧ pO P ≤ 18 ∧ xA z 48 0 p = nI (pK P) ∧ xA z 49 0 p = pG P ∧ xA z 50 0 p = nI (pO P) ∧ mC z p (pC P)
def mP (z : am_X) (p : Nat) (P : PS) : Prop := mQ z p P ∧ pA P ≤ 1 ∧ pZ P ≤ 1 ∧ xA z 51 0 p = nI (pA P) ∧ xA z 52 0 p = nI (pZ P)
def mL (z : am_X) (l : LW) : Prop := (∀ d, d < 4 → xA z 43 0 d = nI (l.1 d) ∧ xA z 44 0 d = nI (l.2.1 d) ∧ xA z 45 0 d = nI (l.2.2.1 d)) ∧ xF z 32 2 0 = nI l.2.2.2
def fQ (p : Nat) (z z' : am_X) : Prop := (∀ t k j, xF z' t k j = xF z t k j) ∧ (∀ t i q, ¬ ((t = 48 ∨ t = 49 ∨ t = 50 ∨ t = 53) ∧ q = p) → ¬ (t = 54 ∧ 12 * p ≤ q ∧ q < 12 * p + 12) → xA z' t i q = xA z t i q) ∧ z'.2.2 = z.2.2
theorem fQ.rf {p : Nat} {z : am_X} : fQ p z z := ⟨fun _ _ _ => rfl, fun _ _ _ _ _ => rfl, rfl⟩
theorem fQ.tr {p : Nat} {x y z : am_X} (h : fQ p x y) (h' : fQ p y z) : fQ p x z := ⟨fun t k j => (h'.1 t k j).trans (h.1 t k j), fun t j q h1 h2 => (h'.2.1 t j q h1 h2).trans (h.2.1 t j q h1 h2), h'.2.2.trans h.2.2⟩
theorem fM.fQ {p : Nat} {z z' : am_X} (h : fM p z z') : fQ p z z' := ⟨h.1, fun t i q h1 h2 => h.2.1 t i q (fun e => h1 ⟨Or.inr (Or.inr (Or.inr e.1)), e.2⟩) h2, h.2.2⟩
theorem fQ.p48 {p : Nat} {z : am_X} {v : Int32} : fQ p z (sA z 48 0 p v) := ⟨fun _ _ _ => rfl, fun t i q h1 h2 => by rw [xA_sA, if_neg (fun e => h1 ⟨Or.inl e.1, e.2.2⟩)], rfl⟩
theorem fQ.p49 {p : Nat} {z : am_X} {v : Int32} : fQ p z (sA z 49 0 p v) := ⟨fun _ _ _ => rfl, fun t i q h1 h2 => by rw [xA_sA, if_neg (fun e => h1 ⟨Or.inr (Or.inl e.1), e.2.2⟩)], rfl⟩
theorem fQ.p50 {p : Nat} {z : am_X} {v : Int32} : fQ p z (sA z 50 0 p v) := ⟨fun _ _ _ => rfl, fun t i q h1 h2 => by rw [xA_sA, if_neg (fun e => h1 ⟨Or.inr (Or.inr (Or.inl e.1)), e.2.2⟩)], rfl⟩
theorem fQ.mL {p : Nat} {z z' : am_X} {l : LW} (h : fQ p z z') (hL : mL z l) : mL z' l := ⟨fun d hd => ⟨by rw [h.2.1 _ _ _ (fun e => by omega) (fun e => by omega)]; exact (hL.1 d hd).1, by rw [h.2.1 _ _ _ (fun e => by omega) (fun e => by omega)]; exact (hL.1 d hd).2.1, by rw [h.2.1 _ _ _ (fun e => by omega) (fun e => by omega)]; exact (hL.1 d hd).2.2⟩, by rw [h.1]; exact hL.2⟩
theorem fQ.mC {p q : Nat} {z z' : am_X} {cs : List Nat} (h : fQ p z z') (hpq : q ≠ p) (hc : mC z q cs) : mC z' q cs := by
  have hl := hc.2.1
  refine ⟨by rw [h.2.1 _ _ _ (fun e => hpq e.2) (fun e => by cases e.1)]; exact hc.1, hc.2.1, hc.2.2.1, fun k hk => ?_⟩
  rw [h.2.1 _ _ _ (fun e => by omega) (fun e => by omega)]
  exact hc.2.2.2 k hk
theorem fQ.mQ {p q : Nat} {z z' : am_X} {P : PS} (h : fQ p z z') (hpq : q ≠ p) (hc : mQ z q P) : mQ z' q P := ⟨hc.1, hc.2.1, by rw [h.2.1 _ _ _ (fun e => hpq e.2) (fun e => by cases e.1)]; exact hc.2.2.1, by rw [h.2.1 _ _ _ (fun e => hpq e.2) (fun e => by cases e.1)]; exact hc.2.2.2.1, by rw [h.2.1 _ _ _ (fun e => hpq e.2) (fun e => by cases e.1)]; exact hc.2.2.2.2.1, h.mC hpq hc.2.2.2.2.2⟩
theorem fQ.mP {p q : Nat} {z z' : am_X} {P : PS} (h : fQ p z z') (hpq : q ≠ p) (hc : mP z q P) : mP z' q P := ⟨h.mQ hpq hc.1, hc.2.1, hc.2.2.1, by rw [h.2.1 _ _ _ (fun e => hpq e.2) (fun e => by cases e.1)]; exact hc.2.2.2.1, by rw [h.2.1 _ _ _ (fun e => hpq e.2) (fun e => by cases e.1)]; exact hc.2.2.2.2⟩
theorem M_gets {n p d : Nat} {z : am_X} {P : PS} {l : LW} (hp : p < 5) (hP : mQ z p P) (hL : mL z l) (hd : d < 4) : f_X9_gets n 0 (nI p) (nI d) z = some (nI (l.2.1 d + km (pK P)), z) := by
  unfold f_X9_gets km
  rw [if_pos (am_inB_nI (by omega) (by omega)), if_pos (am_inB_nI (by omega) (by omega)), nI_c (by omega), nI_c (by omega), hP.2.2.1, (hL.1 d hd).2.1]
  have h5 := hP.1
  rcases (show pK P = 0 ∨ pK P = 1 ∨ pK P = 2 ∨ pK P = 3 ∨ pK P = 4 by omega) with h | h | h | h | h
  · rw [h, if_neg (by decide), if_pos (am_inB_nI (by omega) (by omega)), if_pos (by decide), if_neg (by omega), li0, nI_add]
  · rw [h, if_neg (by decide), if_pos (am_inB_nI (by omega) (by omega)), if_pos (by decide), if_neg (by omega), li0, nI_add]
  · rw [h, if_neg (by decide), if_pos (am_inB_nI (by omega) (by omega)), if_pos (by decide), if_neg (by omega), li0, nI_add]
  · rw [h, if_pos (by decide), if_pos (Or.inl rfl), li1, nI_add]
  · rw [h, if_neg (by decide), if_pos (am_inB_nI (by omega) (by omega)), if_neg (by decide), if_pos (Or.inr rfl), li1, nI_add]
theorem M_needs {n k t : Nat} (z : am_X) (hk : k < 5) (h1 : 1 ≤ t) (h9 : t ≤ 9) : f_X9_needs n (nI k) (nI t) z = some (nI (kn k t), z) := by
  unfold f_X9_needs kn
  rw [li1]
  by_cases h : k = 1
  · rw [if_neg (fun e => e (by rw [h])), if_pos h]
    by_cases h2 : t ≤ 1
    · rw [if_pos (nI_le h2 (by omega)), if_neg (by omega), show t = 1 from by omega]
    · rw [if_neg (nI_ge (by omega) (by omega)), nI_subi (by omega)]
      split
      · rfl
      · rw [show t - 1 = 1 from by omega]
  · rw [if_pos (fun e => h ((nI_eq (by omega) (by omega)).mp e)), if_neg h]
    split
    · rfl
    · rw [show t = 1 from by omega]
theorem M_isCovered {n p d t : Nat} {z : am_X} {P : PS} {l : LW} (hn : 100 ≤ n) (hp : p < 5) (hP : mQ z p P) (hL : mL z l) (hl : lw_ok l) (hd : d < 4) (h1 : 1 ≤ t) (h9 : t ≤ 9) : f_X9_isCovered n 0 (nI p) (nI d) (nI t) z = some ((if pCv l d t 0 P = true then 1 else 0), z) := by
  obtain ⟨k5, o9, e1, e2, e3, e4⟩ := hP
  unfold f_X9_isCovered pCv
  rw [if_pos (am_inB_nI (by omega) (by omega)), nI_c (by omega), e3, cr_lap_0]
  by_cases ho : pO P = 0
  · rw [if_neg (fun w => w ((z0 (by omega)).mpr ho)), if_pos (am_inB_nI (by omega) (by omega)), nI_c (by omega), (hL.1 d hd).2.2, M_count hn hp e4 (hl.1 d hd).2.2, ob, if_pos (am_inB_nI (by omega) (by omega)), e1, M_needs z k5 h1 h9, ob]
    have hk := (kn_le (k := pK P) h9).2
    have hc := e4.2.1
    have hcc : (pC P).countP (cr_has (l.2.2.1 d)) ≤ (pC P).length := List.countP_le_length
    by_cases hlt : kn (pK P) t ≤ (pC P).countP (cr_has (l.2.2.1 d))
    · rw [if_neg (nI_nlt hlt (by omega)), if_pos (by simp only [Bool.and_eq_true, decide_eq_true_eq]; exact ⟨ho, hlt⟩)]
    · rw [if_pos (nI_lt (by omega) (by omega)), if_neg (by simp only [Bool.and_eq_true, decide_eq_true_eq]; exact fun w => hlt w.2)]
  · rw [if_pos (fun w => ho ((z0 (by omega)).mp w)), if_neg (by simp only [Bool.and_eq_true, decide_eq_true_eq]; exact fun w => ho w.1)]
theorem M_mayDo {n p a : Nat} {z : am_X} {P : PS} {l : LW} (hn : 100 ≤ n) (hp : p < 5) (hP : mQ z p P) (hL : mL z l) (hl : lw_ok l) (ha : aOk a) : f_X9_mayDo n 0 (nI p) (nI a) z = some ((if pMay l a P = true then 1 else 0), z) := by
  have ho9 := hP.2.1
  unfold f_X9_mayDo pMay
  rw [show (20 : Int32) = nI 20 from rfl, show (10 : Int32) = nI 10 from rfl]
  rcases ha with h | h | h
  · rw [if_pos (nI_lt (by omega) (by omega)), if_pos (nI_lt (by omega) (by omega)), if_pos h]
    rfl
  · rw [if_pos (nI_lt (by omega) (by omega)), if_neg (nI_nlt (by omega) (by omega)), nI_subi (by omega), if_pos (am_inB_nI (by omega) (by omega)), nI_c (by omega), (hL.1 (a - 10) (by omega)).1, M_isCovered hn hp hP hL hl (by omega) (hl.1 _ (by omega)).1.1 (hl.1 _ (by omega)).1.2, ob, if_neg (show ¬ a < 3 by omega), if_pos h]
    split <;> rfl
  · rw [if_neg (nI_nlt (by omega) (by omega)), if_pos (am_inB_nI (by omega) (by omega)), nI_c (by omega), hP.2.2.2.2.1, if_neg (show ¬ a < 3 by omega), if_neg (show ¬ (10 ≤ a ∧ a < 14) by omega)]
    by_cases ho : pO P = 0
    · rw [if_neg (fun w => w ((z0 (by omega)).mpr ho)), if_pos (by simpa using ho)]
    · rw [if_pos (fun w => ho ((z0 (by omega)).mp w)), if_neg (by simpa using ho)]
theorem M_mayDo9 {n p : Nat} (z : am_X) : f_X9_mayDo n 0 (nI p) (nI 9) z = some (1, z) := by
  unfold f_X9_mayDo
  rw [if_pos (by decide), if_pos (by decide)]
theorem mQ_crd {z z' : am_X} {p : Nat} {P : PS} {cs : List Nat} (hP : mQ z p P) (h : fM p z z') (hc : mC z' p cs) : mQ z' p (pK P, (pG P, (pO P, (pA P, (pZ P, cs))))) := ⟨hP.1, hP.2.1, by rw [h.2.1 _ _ _ (fun e => by cases e.1) (fun e => by cases e.1)]; exact hP.2.2.1, by rw [h.2.1 _ _ _ (fun e => by cases e.1) (fun e => by cases e.1)]; exact hP.2.2.2.1, by rw [h.2.1 _ _ _ (fun e => by cases e.1) (fun e => by cases e.1)]; exact hP.2.2.2.2.1, hc⟩
/-- the same core: kind, got, owes, credits -/
theorem mQ_core {z : am_X} {p : Nat} {P P' : PS} (hP : mQ z p P) (h1 : pK P' = pK P) (h2 : pG P' = pG P) (h3 : pO P' = pO P) (h4 : pC P' = pC P) : mQ z p P' := by
  unfold mQ
  rw [h1, h2, h3, h4]
  exact hP
theorem M_lapseP {n p w : Nat} {z : am_X} {P : PS} {l : LW} (hn : 100 ≤ n) (hp : p < 5) (hP : mQ z p P) (hL : mL z l) (hl : l.2.2.2 ≤ 9) (hw : w < 100000) : ∃ z', f_X9_lapseOf n 0 (nI p) (nI w) z = some z' ∧ mQ z' p (pLap l w P) ∧ fM p z z' := by
  obtain ⟨z', g1, g2, g3⟩ := M_lapse (n := n) hn hp hw (show l.2.2.2 < 100000 by omega) hL.2 hP.2.2.2.2.2
  exact ⟨z', g1, mQ_crd hP g3 g2, g3⟩
theorem M_serve {n p s w : Nat} {z : am_X} {P : PS} (hn : 100 ≤ n) (hp : p < 5) (hP : mQ z p P) (hs : s < 3) (hw : w < 2000) : ∃ z', f_X9_serve n 0 (nI p) (nI s) (nI w) z = some z' ∧ mQ z' p (pK P, (pG P, (pO P - 1, (pA P, (pZ P, (if pO P = 0 then (if pK P = 2 then cr_giv (4 * w + s) (cr_giv (4 * w + s) (pC P)) else cr_giv (4 * w + s) (pC P)) else pC P)))))) ∧ fQ p z z' := by
  have hP0 := hP
  obtain ⟨k5, o9, e1, e2, e3, e4⟩ := hP
  unfold f_X9_serve
  rw [if_pos (am_inB_nI (by omega) (by omega)), nI_c (by omega), e3]
  by_cases h0 : pO P = 0
  · have hc : cr_ok (4 * w + s) := ⟨by omega, by omega⟩
    rw [if_pos (by rw [h0]; decide), li4, pk_mul, nI_add]
    obtain ⟨z1, g1, g2, g3⟩ := M_give hn hp hc e4
    rw [g1, ob, if_pos (am_inB_nI (by omega) (by omega))]
    have e5 : xA z1 48 0 p = nI (pK P) := by rw [g3.2.1 _ _ _ (fun e => by cases e.1) (fun e => by cases e.1)]; exact e1
    rw [e5, if_pos h0]
    by_cases h2 : pK P = 2
    · rw [if_neg (fun w => w (by rw [h2]; rfl)), if_pos h2]
      obtain ⟨z2, g4, g5, g6⟩ := M_give hn hp hc g2
      rw [g4, ob]
      refine ⟨z2, rfl, ?_, (g3.tr g6).fQ⟩
      exact mQ_core (mQ_crd hP0 (g3.tr g6) g5) rfl rfl (by show pO P - 1 = pO P; omega) rfl
    · rw [if_pos (show ¬ nI (pK P) = 2 from fun w => h2 ((nI_eq (b := 2) (by omega) (by omega)).mp w)), if_neg h2]
      refine ⟨z1, rfl, ?_, g3.fQ⟩
      exact mQ_core (mQ_crd hP0 g3 g2) rfl rfl (by show pO P - 1 = pO P; omega) rfl
  · rw [if_neg (by rw [li0]; exact nI_ge (by omega) (by omega)), if_pos (am_inB_nI (by omega) (by omega)), if_pos (am_inB_nI (by omega) (by omega)), li1, nI_subi (by omega), if_neg h0]
    refine ⟨_, rfl, ⟨k5, by show pO P - 1 ≤ 18; omega, ?_, ?_, ?_, ⟨?_, e4.2.1, e4.2.2.1, ?_⟩⟩, fQ.p50⟩
    · rw [xA_sA, if_neg (fun e => by cases e.1)]; exact e1
    · rw [xA_sA, if_neg (fun e => by cases e.1)]; exact e2
    · rw [xA_sA, if_pos ⟨rfl, rfl, rfl⟩]
    · rw [xA_sA, if_neg (fun e => by cases e.1)]; exact e4.1
    · intro k hk
      rw [xA_sA, if_neg (fun e => by cases e.1)]
      exact e4.2.2.2 k hk
theorem M_doAct {n p a w : Nat} {z : am_X} {P : PS} {l : LW} (hn : 100 ≤ n) (hp : p < 5) (hP : mQ z p P) (hL : mL z l) (hl : lw_ok l) (ha : aOk a) (hw : w < 2000) (hb : 20 ≤ a → pO P = 0) : ∃ z', f_X9_doAct n 0 (nI p) (nI a) (nI w) z = some z' ∧ mQ z' p (pDo l a w P) ∧ fQ p z z' := by
  have hP0 := hP
  obtain ⟨k5, o9, e1, e2, e3, e4⟩ := hP
  unfold f_X9_doAct
  rw [show (20 : Int32) = nI 20 from rfl, show (10 : Int32) = nI 10 from rfl, li3]
  rcases ha with h | h | h
  · rw [if_pos (nI_lt (by omega) (by omega)), if_pos (nI_lt (by omega) (by omega)), if_neg (nI_ge h (by omega))]
    obtain ⟨z1, g1, g2, g3⟩ := M_serve hn hp hP0 h hw
    rw [g1, ob]
    refine ⟨z1, rfl, mQ_core g2 rfl ?_ ?_ ?_, g3⟩
    · show pG P + nI (pGet l a P) = pG P
      unfold pGet
      rw [if_neg (show ¬ ((10 ≤ a ∧ a < 14) ∨ (20 ≤ a ∧ a < 24)) by omega), nI_0, Int32.add_zero]
    · show pOwe l a P = pO P - 1
      unfold pOwe
      rw [if_pos h]
    · show pCrd l a w P = _
      unfold pCrd
      rw [if_pos h]
  · rw [if_pos (nI_lt (by omega) (by omega)), if_neg (nI_nlt (by omega) (by omega)), if_pos (am_inB_nI (by omega) (by omega)), nI_subi (by omega), M_gets hp hP0 hL (by omega), ob, if_pos (am_inB_nI (by omega) (by omega)), if_pos (am_inB_nI (by omega) (by omega)), if_pos (am_inB_nI (by omega) (by omega)), if_pos (am_inB_nI (by omega) (by omega)), nI_c (by omega), nI_c (by omega), e1, (hL.1 (a - 10) (by omega)).1, (hL.1 (a - 10) (by omega)).2.2, e2, M_needs _ k5 (hl.1 _ (by omega)).1.1 (hl.1 _ (by omega)).1.2, ob]
    have hk := kn_le (k := pK P) (hl.1 (a - 10) (by omega)).1.2
    have hQ1 : mQ (sA z 49 0 p (pG P + nI (l.2.1 (a - 10) + km (pK P)))) p (pK P, (pG P + nI (l.2.1 (a - 10) + km (pK P)), (pO P, (pA P, (pZ P, pC P))))) := ⟨k5, o9, by rw [xA_sA, if_neg (fun e => by cases e.1)]; exact e1, by rw [xA_sA, if_pos ⟨rfl, rfl, rfl⟩], by rw [xA_sA, if_neg (fun e => by cases e.1)]; exact e3, by rw [xA_sA, if_neg (fun e => by cases e.1)]; exact e4.1, e4.2.1, e4.2.2.1, fun k hk => by rw [xA_sA, if_neg (fun e => by cases e.1)]; exact e4.2.2.2 k hk⟩
    obtain ⟨z1, g1, g2, g3⟩ := M_take (n := n) (many := kn (pK P) (l.1 (a - 10))) hn hp (hl.1 (a - 10) (by omega)).2.2 (by omega) (by omega) hQ1.2.2.2.2.2
    rw [g1, ob]
    refine ⟨z1, rfl, mQ_core (mQ_crd hQ1 g3 g2) rfl ?_ ?_ ?_, fQ.p49.tr g3.fQ⟩
    · show pG P + nI (pGet l a P) = _
      unfold pGet
      rw [if_pos (Or.inl h), show a % 10 = a - 10 from by omega]
    · show pOwe l a P = pO P
      unfold pOwe
      rw [if_neg (show ¬ a < 3 by omega), if_neg (show ¬ (20 ≤ a ∧ a < 24) by omega)]
    · show pCrd l a w P = _
      unfold pCrd
      rw [if_neg (show ¬ a < 3 by omega), if_pos h, show a % 10 = a - 10 from by omega]
  · have h0 := hb h.1
    rw [if_neg (nI_nlt (by omega) (by omega)), if_pos (am_inB_nI (by omega) (by omega)), nI_subi (by omega), M_gets hp hP0 hL (by omega), ob, if_pos (am_inB_nI (by omega) (by omega)), if_pos (am_inB_nI (by omega) (by omega)), if_pos (am_inB_nI (by omega) (by omega)), if_pos (am_inB_nI (by omega) (by omega)), nI_c (by omega), nI_c (by omega), e1, e2, e3, (hL.1 (a - 20) (by omega)).1]
    have ht := (hl.1 (a - 20) (by omega)).1
    have fin : ∀ o, o = pOwe l a P → mQ (sA (sA z 49 0 p (pG P + nI (l.2.1 (a - 20) + km (pK P)))) 50 0 p (nI o)) p (pDo l a w P) := by
      intro o ho
      refine ⟨k5, pOwe_le hl (by omega) o9, ?_, ?_, ?_, ?_, ?_, ?_, ?_⟩
      · rw [xA_sA, if_neg (fun e => by cases e.1), xA_sA, if_neg (fun e => by cases e.1)]; exact e1
      · rw [xA_sA, if_neg (fun e => by cases e.1), xA_sA, if_pos ⟨rfl, rfl, rfl⟩]
        show _ = pG P + nI (pGet l a P)
        unfold pGet
        rw [if_pos (Or.inr h), show a % 10 = a - 20 from by omega]
      · rw [xA_sA, if_pos ⟨rfl, rfl, rfl⟩, ho]; rfl
      · rw [xA_sA, if_neg (fun e => by cases e.1), xA_sA, if_neg (fun e => by cases e.1)]
        show _ = nI (pCrd l a w P).length
        unfold pCrd
        rw [if_neg (show ¬ a < 3 by omega), if_neg (show ¬ (10 ≤ a ∧ a < 14) by omega)]
        exact e4.1
      · show (pCrd l a w P).length ≤ 12
        unfold pCrd
        rw [if_neg (show ¬ a < 3 by omega), if_neg (show ¬ (10 ≤ a ∧ a < 14) by omega)]
        exact e4.2.1
      · show ∀ c ∈ pCrd l a w P, cr_ok c
        unfold pCrd
        rw [if_neg (show ¬ a < 3 by omega), if_neg (show ¬ (10 ≤ a ∧ a < 14) by omega)]
        exact e4.2.2.1
      · show ∀ k, k < (pCrd l a w P).length → _ = nI ((pCrd l a w P).getD k 0)
        unfold pCrd
        rw [if_neg (show ¬ a < 3 by omega), if_neg (show ¬ (10 ≤ a ∧ a < 14) by omega)]
        intro k hk
        rw [xA_sA, if_neg (fun e => by cases e.1), xA_sA, if_neg (fun e => by cases e.1)]
        exact e4.2.2.2 k hk
    unfold b_X9_doAct_55
    by_cases h4 : pK P = 4
    · rw [if_neg (fun w => w (by rw [h4]; rfl)), if_pos (am_inB_nI (by omega) (by omega)), li1, pk_mul, nI_add, nI_c (by omega)]
      refine ⟨_, rfl, fin _ ?_, fQ.p49.tr fQ.p50⟩
      unfold pOwe ko
      rw [if_neg (show ¬ a < 3 by omega), if_pos h, if_pos h4, show a % 10 = a - 20 from by omega]
      omega
    · rw [if_pos (show ¬ nI (pK P) = 4 from fun w => h4 ((nI_eq (b := 4) (by omega) (by omega)).mp w)), if_pos (am_inB_nI (by omega) (by omega)), show (2 : Int32) = nI 2 from rfl, pk_mul, nI_add, nI_c (by omega)]
      refine ⟨_, rfl, fin _ ?_, fQ.p49.tr fQ.p50⟩
      unfold pOwe ko
      rw [if_neg (show ¬ a < 3 by omega), if_pos h, if_neg h4, show a % 10 = a - 20 from by omega]
      omega
theorem M_doAct9 {n p : Nat} {w : Int32} (z : am_X) : f_X9_doAct n 0 (nI p) (nI 9) w z = some z := by
  unfold f_X9_doAct
  rw [if_pos (by decide), if_pos (by decide), if_pos (by decide)]
