/-! A TOWN of the class, and the reference's people -/
def tG (g : PS → PS) (j : Nat) (T : Nat → PS) : Nat → PS := fun i => if i < j then g (T i) else T i
def cT (x : am_X) (t N w : Nat) (T : Nat → PS) : Prop := N ≤ 4 ∧ xF x 3 1 t = nI N ∧ xF x 3 2 t = nI w ∧ ∀ i, i < 4 → cP x (4 * t + i) (T i)
def fT (t : Nat) (x x' : am_X) : Prop := (∀ t' k j, ¬ (t' = 3 ∧ j = t) → ¬ ((t' = 4 ∨ t' = 5) ∧ 4 * t ≤ j ∧ j < 4 * t + 4) → xF x' t' k j = xF x t' k j) ∧ (∀ t' j q, ¬ (t' = 12 ∧ 4 * t ≤ j ∧ j < 4 * t + 4) → xA x' t' j q = xA x t' j q) ∧ (∀ j, ¬ (4 * t ≤ j ∧ j < 4 * t + 4) → xK x' j = xK x j) ∧ x'.2.2.2 = x.2.2.2
theorem fT.rf {t : Nat} {x : am_X} : fT t x x := ⟨fun _ _ _ _ _ => rfl, fun _ _ _ _ => rfl, fun _ _ => rfl, rfl⟩
theorem fT.tr {t : Nat} {x y z : am_X} (h : fT t x y) (h' : fT t y z) : fT t x z := ⟨fun t k j a b => (h'.1 t k j a b).trans (h.1 t k j a b), fun t j q a => (h'.2.1 t j q a).trans (h.2.1 t j q a), fun j a => (h'.2.2.1 j a).trans (h.2.2.1 j a), h'.2.2.2.trans h.2.2.2⟩
theorem fP.fT {t i : Nat} {x x' : am_X} (h : fP (4 * t + i) x x') (hi : i < 4) : fT t x x' := ⟨fun t' k j a b => h.1 t' k j (fun e => b ⟨e.1, by omega⟩), fun t' j q a => h.2.1 t' j q (fun e => a ⟨e.1, by omega⟩), fun j a => h.2.2.1 j (fun e => a (by omega)), h.2.2.2⟩
theorem fT.put {t k : Nat} {x : am_X} {v : Int32} : fT t x (sF x 3 k t v) := ⟨fun t' k' j a b => by rw [xF_sF, if_neg (fun e => a ⟨e.1, e.2.2⟩)], fun _ _ _ _ => rfl, fun _ _ => rfl, rfl⟩
theorem fT.cL {t j : Nat} {x x' : am_X} {l : LW} (h : fT t x x') (hc : cL x j l) : cL x' j l := ⟨fun d hd => ⟨by rw [h.2.1 _ _ _ (fun e => by cases e.1)]; exact (hc.1 d hd).1, by rw [h.2.1 _ _ _ (fun e => by cases e.1)]; exact (hc.1 d hd).2.1, by rw [h.2.1 _ _ _ (fun e => by cases e.1)]; exact (hc.1 d hd).2.2⟩, by rw [h.1 _ _ _ (fun e => by cases e.1) (fun e => by omega)]; exact hc.2⟩
theorem fT.cP {t i : Nat} {x x' : am_X} {P : PS} (h : fT t x x') (hi : ¬ (4 * t ≤ i ∧ i < 4 * t + 4)) (hc : cP x i P) : cP x' i P := ⟨hc.1, by rw [h.2.2.1 _ hi]; exact hc.2.1, by rw [h.1 _ _ _ (fun e => by cases e.1) (fun e => hi e.2)]; exact hc.2.2.1, by rw [h.1 _ _ _ (fun e => by cases e.1) (fun e => hi e.2)]; exact hc.2.2.2.1, by rw [h.1 _ _ _ (fun e => by cases e.1) (fun e => hi e.2)]; exact hc.2.2.2.2.1, by rw [h.1 _ _ _ (fun e => by cases e.1) (fun e => hi e.2)]; exact hc.2.2.2.2.2.1, by rw [h.1 _ _ _ (fun e => by cases e.1) (fun e => hi e.2)]; exact hc.2.2.2.2.2.2.1, hc.2.2.2.2.2.2.2.1, hc.2.2.2.2.2.2.2.2.1, fun k hk => by rw [h.2.1 _ _ _ (fun e => hi e.2)]; exact hc.2.2.2.2.2.2.2.2.2 k hk⟩
theorem fT.cT {t t' N w : Nat} {x x' : am_X} {T : Nat → PS} (h : fT t x x') (ht : t' ≠ t) (hc : cT x t' N w T) : cT x' t' N w T := ⟨hc.1, by rw [h.1 _ _ _ (fun e => ht e.2) (fun e => by omega)]; exact hc.2.1, by rw [h.1 _ _ _ (fun e => ht e.2) (fun e => by omega)]; exact hc.2.2.1, fun i hi => h.cP (by omega) (hc.2.2.2 i hi)⟩
theorem S_one {n t i : Nat} {x : am_X} (hi : i < 4) : f_X7_one n t (nI i) x = some (4 * t + i, x) := by
  unfold f_X7_one
  rw [if_neg (nI_pos (by omega)), li4, if_neg (nI_ge hi (by omega)), if_pos (am_inB_nI (by omega) (by omega)), nI_c (by omega)]
/-- a person of the town is another one now -/
theorem cT.set {t N w i : Nat} {x x' : am_X} {T : Nat → PS} {P : PS} (h : cT x t N w T) (hi : i < 4) (hf : fP (4 * t + i) x x') (hP : cP x' (4 * t + i) P) : cT x' t N w (fun j => if j = i then P else T j) := ⟨h.1, by rw [hf.1 _ _ _ (fun e => by omega)]; exact h.2.1, by rw [hf.1 _ _ _ (fun e => by omega)]; exact h.2.2.1, fun j hj => by
  show cP x' (4 * t + j) (if j = i then P else T j)
  by_cases e : j = i
  · rw [if_pos e, e]; exact hP
  · rw [if_neg e]; exact hf.cP (by omega) (h.2.2.2 j hj)⟩
theorem cT.eq {t N w : Nat} {x : am_X} {T T' : Nat → PS} (h : cT x t N w T) (e : ∀ i, i < 4 → T' i = T i) : cT x t N w T' := ⟨h.1, h.2.1, h.2.2.1, fun i hi => by rw [e i hi]; exact h.2.2.2 i hi⟩
theorem tG_succ (g : PS → PS) (j : Nat) (T : Nat → PS) (i : Nat) : tG g (j + 1) T i = if i = j then g (tG g j T j) else tG g j T i := by
  unfold tG
  by_cases e : i = j
  · rw [if_pos e, if_pos (by omega), if_neg (by omega), e]
  · rw [if_neg e]
    by_cases e2 : i < j
    · rw [if_pos (by omega), if_pos e2]
    · rw [if_neg (by omega), if_neg e2]
theorem tG_0 (g : PS → PS) (T : Nat → PS) (i : Nat) : tG g 0 T i = T i := by
  unfold tG
  rw [if_neg (by omega)]
theorem S_passWeek_lp {n t N w : Nat} {l : LW} {T : Nat → PS} (hn : 100 ≤ n) (hl : l.2.2.2 ≤ 9) (hw : w < 100000) : ∀ (m j k : Nat) (x : am_X), cT x t N w (tG (pEnt l w) j T) → cL x 0 l → j + m = N → m < k → ∃ x', b_X7_passWeek_12 n k t 0 (nI j) x = some x' ∧ cT x' t N w (tG (pEnt l w) N T) ∧ fT t x x' := by
  intro m
  induction m with
  | zero =>
    intro j k x h hL hj hk
    obtain ⟨k, rfl⟩ : ∃ e, k = e + 1 := ⟨k - 1, by omega⟩
    have := h.1
    rw [b_X7_passWeek_12, h.2.1, if_pos (nI_le (by omega) (by omega))]
    have e : j = N := by omega
    subst e
    exact ⟨x, rfl, h, fT.rf⟩
  | succ m ih =>
    intro j k x h hL hj hk
    obtain ⟨k, rfl⟩ : ∃ e, k = e + 1 := ⟨k - 1, by omega⟩
    have h4 := h.1
    rw [b_X7_passWeek_12, h.2.1, if_neg (nI_ge (by omega) (by omega)), S_one (by omega), ob, h.2.2.1]
    obtain ⟨x1, g1, g2, g3⟩ := S_enter (n := n) hn (h.2.2.2 j (by omega)) hL hl hw
    rw [g1, ob, li1, nI_add]
    obtain ⟨x2, k1, k2, k3⟩ := ih (j + 1) k x1 ((h.set (by omega) g3 g2).eq (fun i _ => tG_succ _ _ _ _)) (g3.cL hL) (by omega) (by omega)
    exact ⟨x2, k1, k2, (g3.fT (by omega)).tr k3⟩
theorem S_passWeek {n t N w : Nat} {l : LW} {T : Nat → PS} {x : am_X} (hn : 100 ≤ n) (hl : l.2.2.2 ≤ 9) (hw : w < 99999) (h : cT x t N w T) (hL : cL x 0 l) : ∃ x', f_X7_passWeek n t 0 x = some x' ∧ cT x' t N (w + 1) (tG (pEnt l (w + 1)) N T) ∧ fT t x x' := by
  unfold f_X7_passWeek
  have h4 := h.1
  rw [h.2.2.1, li1, nI_add]
  have h2 : cT (sF x 3 2 t (nI (w + 1))) t N (w + 1) (tG (pEnt l (w + 1)) 0 T) := ⟨h.1, by rw [xF_sF, if_neg (by omega)]; exact h.2.1, by rw [xF_sF, if_pos ⟨rfl, rfl, rfl⟩], fun i hi => by
    rw [tG_0]
    have hc := h.2.2.2 i hi
    exact ⟨hc.1, hc.2.1, by rw [xF_sF, if_neg (by omega)]; exact hc.2.2.1, by rw [xF_sF, if_neg (by omega)]; exact hc.2.2.2.1, by rw [xF_sF, if_neg (by omega)]; exact hc.2.2.2.2.1, by rw [xF_sF, if_neg (by omega)]; exact hc.2.2.2.2.2.1, by rw [xF_sF, if_neg (by omega)]; exact hc.2.2.2.2.2.2.1, hc.2.2.2.2.2.2.2⟩⟩
  obtain ⟨x', g1, g2, g3⟩ := S_passWeek_lp (n := n) hn hl (show w + 1 < 100000 by omega) N 0 n _ h2 (fT.put.cL hL) (by omega) (by omega)
  exact ⟨x', g1, g2, fT.put.tr g3⟩
theorem S_dropLT_lp {n t N w : Nat} {l : LW} {T : Nat → PS} (hn : 100 ≤ n) (hl : l.2.2.2 ≤ 9) (hw : w < 100000) : ∀ (m j k : Nat) (x : am_X), cT x t N w (tG (pLap l w) j T) → cL x 0 l → j + m = N → m < k → ∃ x', b_X7_dropLapsed_2 n k t 0 (nI j) x = some x' ∧ cT x' t N w (tG (pLap l w) N T) ∧ fT t x x' := by
  intro m
  induction m with
  | zero =>
    intro j k x h hL hj hk
    obtain ⟨k, rfl⟩ : ∃ e, k = e + 1 := ⟨k - 1, by omega⟩
    have := h.1
    rw [b_X7_dropLapsed_2, h.2.1, if_pos (nI_le (by omega) (by omega))]
    have e : j = N := by omega
    subst e
    exact ⟨x, rfl, h, fT.rf⟩
  | succ m ih =>
    intro j k x h hL hj hk
    obtain ⟨k, rfl⟩ : ∃ e, k = e + 1 := ⟨k - 1, by omega⟩
    have h4 := h.1
    rw [b_X7_dropLapsed_2, h.2.1, if_neg (nI_ge (by omega) (by omega)), S_one (by omega), ob, h.2.2.1]
    obtain ⟨x1, g1, g2, g3⟩ := S_dropLapsed (n := n) hn (h.2.2.2 j (by omega)) hL hl hw
    rw [g1, ob, li1, nI_add]
    obtain ⟨x2, k1, k2, k3⟩ := ih (j + 1) k x1 ((h.set (by omega) g3 g2).eq (fun i _ => tG_succ _ _ _ _)) (g3.cL hL) (by omega) (by omega)
    exact ⟨x2, k1, k2, (g3.fT (by omega)).tr k3⟩
theorem S_dropLT {n t N w : Nat} {l : LW} {T : Nat → PS} {x : am_X} (hn : 100 ≤ n) (hl : l.2.2.2 ≤ 9) (hw : w < 100000) (h : cT x t N w T) (hL : cL x 0 l) : ∃ x', f_X7_dropLapsed n t 0 x = some x' ∧ cT x' t N w (tG (pLap l w) N T) ∧ fT t x x' := by
  unfold f_X7_dropLapsed
  have h4 := h.1
  exact S_dropLT_lp hn hl hw N 0 n x (h.eq (fun i _ => tG_0 _ _ _)) hL (by omega) (by omega)
theorem S_copyT_lp {n t t' N w : Nat} {T : Nat → PS} (hn : 100 ≤ n) (ht : t ≠ t') : ∀ (m j k : Nat) (x : am_X), cT x t' N w T → (∀ i, i < j → cP x (4 * t + i) (T i)) → j + m = 4 → m < k → ∃ x', b_X7_copy_2 n k t t' (nI j) x = some x' ∧ cT x' t N w T ∧ fT t x x' := by
  intro m
  induction m with
  | zero =>
    intro j k x h hj hm hk
    obtain ⟨k, rfl⟩ : ∃ e, k = e + 1 := ⟨k - 1, by omega⟩
    have hj4 : j = 4 := by omega
    subst hj4
    rw [b_X7_copy_2, if_pos (by decide), h.2.1, h.2.2.1]
    refine ⟨_, rfl, ⟨h.1, ?_, ?_, ?_⟩, fT.put.tr fT.put⟩
    · rw [xF_sF, if_neg (by omega), xF_sF, if_pos ⟨rfl, rfl, rfl⟩]
    · rw [xF_sF, if_pos ⟨rfl, rfl, rfl⟩]
    · intro i hi
      have hc := hj i hi
      have e : ∀ (t2 k2 j2 : Nat), t2 ≠ 3 → xF (sF (sF x 3 1 t (nI N)) 3 2 t (nI w)) t2 k2 j2 = xF x t2 k2 j2 := fun t2 k2 j2 hne => by rw [xF_sF, if_neg (fun z => hne z.1), xF_sF, if_neg (fun z => hne z.1)]
      exact ⟨hc.1, hc.2.1, by rw [e _ _ _ (by decide)]; exact hc.2.2.1, by rw [e _ _ _ (by decide)]; exact hc.2.2.2.1, by rw [e _ _ _ (by decide)]; exact hc.2.2.2.2.1, by rw [e _ _ _ (by decide)]; exact hc.2.2.2.2.2.1, by rw [e _ _ _ (by decide)]; exact hc.2.2.2.2.2.2.1, hc.2.2.2.2.2.2.2⟩
  | succ m ih =>
    intro j k x h hj hm hk
    obtain ⟨k, rfl⟩ : ∃ e, k = e + 1 := ⟨k - 1, by omega⟩
    rw [b_X7_copy_2, li4, if_neg (nI_ge (by omega) (by omega)), if_pos (am_inB_nI (by omega) (by omega)), if_pos (am_inB_nI (by omega) (by omega)), nI_c (by omega)]
    obtain ⟨x1, g1, g2, g3⟩ := S_copyP (n := n) (i := 4 * t + j) (j := 4 * t' + j) hn (by omega) (h.2.2.2 j (by omega))
    rw [g1, ob, li1, nI_add]
    obtain ⟨x2, k1, k2, k3⟩ := ih (j + 1) k x1 ((g3.fT (by omega)).cT (Ne.symm ht) h) (fun i hi => by
      by_cases e : i = j
      · rw [e]; exact g2
      · exact g3.cP (by omega) (hj i (by omega))) (by omega) (by omega)
    exact ⟨x2, k1, k2, (g3.fT (by omega)).tr k3⟩
theorem S_copyT {n t t' N w : Nat} {T : Nat → PS} {x : am_X} (hn : 100 ≤ n) (ht : t ≠ t') (h : cT x t' N w T) : ∃ x', f_X7_copy n t t' x = some x' ∧ cT x' t N w T ∧ fT t x x' := by
  unfold f_X7_copy
  exact S_copyT_lp hn ht 4 0 n x h (fun i hi => absurd hi (Nat.not_lt_zero i)) (by omega) (by omega)
/-- sums over the first ones -/
def tS (f : Nat → Int32) : Nat → Int32
  | 0 => 0
  | j + 1 => tS f j + f j
theorem S_allOwed {n t N w : Nat} {T : Nat → PS} {x : am_X} (hn : 100 ≤ n) (h : cT x t N w T) : f_X7_allOwed n t x = some (tS (fun i => nI (pO (T i))) N, x) := by
  have h4 := h.1
  have lp : ∀ (m j k : Nat), j + m = N → m < k → b_X7_allOwed_4 n k t (tS (fun i => nI (pO (T i))) j) (nI j) x = some (tS (fun i => nI (pO (T i))) N, x) := by
    intro m
    induction m with
    | zero =>
      intro j k hj hk
      obtain ⟨k, rfl⟩ : ∃ e, k = e + 1 := ⟨k - 1, by omega⟩
      rw [b_X7_allOwed_4, h.2.1, if_pos (nI_le (by omega) (by omega)), show j = N from by omega]
    | succ m ih =>
      intro j k hj hk
      obtain ⟨k, rfl⟩ : ∃ e, k = e + 1 := ⟨k - 1, by omega⟩
      rw [b_X7_allOwed_4, h.2.1, if_neg (nI_ge (by omega) (by omega)), S_one (by omega), ob, (h.2.2.2 j (by omega)).2.2.2.1, li1, nI_add]
      exact ih (j + 1) k (by omega) (by omega)
  unfold f_X7_allOwed
  exact lp N 0 n (by omega) (by omega)
theorem S_allGot {n t N w : Nat} {T : Nat → PS} {x : am_X} (hn : 100 ≤ n) (h : cT x t N w T) : f_X7_allGot n t x = some (tS (fun i => pG (T i)) N, x) := by
  have h4 := h.1
  have lp : ∀ (m j k : Nat), j + m = N → m < k → b_X7_allGot_4 n k t (tS (fun i => pG (T i)) j) (nI j) x = some (tS (fun i => pG (T i)) N, x) := by
    intro m
    induction m with
    | zero =>
      intro j k hj hk
      obtain ⟨k, rfl⟩ : ∃ e, k = e + 1 := ⟨k - 1, by omega⟩
      rw [b_X7_allGot_4, h.2.1, if_pos (nI_le (by omega) (by omega)), show j = N from by omega]
    | succ m ih =>
      intro j k hj hk
      obtain ⟨k, rfl⟩ : ∃ e, k = e + 1 := ⟨k - 1, by omega⟩
      rw [b_X7_allGot_4, h.2.1, if_neg (nI_ge (by omega) (by omega)), S_one (by omega), ob, (h.2.2.2 j (by omega)).2.2.1, li1, nI_add]
      exact ih (j + 1) k (by omega) (by omega)
  unfold f_X7_allGot
  exact lp N 0 n (by omega) (by omega)
theorem S_allCredits {n t N w : Nat} {T : Nat → PS} {x : am_X} (hn : 100 ≤ n) (h : cT x t N w T) : f_X7_allCredits n t x = some (tS (fun i => nI (pC (T i)).length) N, x) := by
  have h4 := h.1
  have lp : ∀ (m j k : Nat), j + m = N → m < k → b_X7_allCredits_4 n k t (tS (fun i => nI (pC (T i)).length) j) (nI j) x = some (tS (fun i => nI (pC (T i)).length) N, x) := by
    intro m
    induction m with
    | zero =>
      intro j k hj hk
      obtain ⟨k, rfl⟩ : ∃ e, k = e + 1 := ⟨k - 1, by omega⟩
      rw [b_X7_allCredits_4, h.2.1, if_pos (nI_le (by omega) (by omega)), show j = N from by omega]
    | succ m ih =>
      intro j k hj hk
      obtain ⟨k, rfl⟩ : ∃ e, k = e + 1 := ⟨k - 1, by omega⟩
      rw [b_X7_allCredits_4, h.2.1, if_neg (nI_ge (by omega) (by omega)), S_one (by omega), ob, (h.2.2.2 j (by omega)).2.2.2.2.2.2.1, li1, nI_add]
      exact ih (j + 1) k (by omega) (by omega)
  unfold f_X7_allCredits
  exact lp N 0 n (by omega) (by omega)
theorem S_allGone {n t N w : Nat} {T : Nat → PS} {x : am_X} (hn : 100 ≤ n) (h : cT x t N w T) : f_X7_allGone n t x = some (tS (fun i => nI (pZ (T i))) N, x) := by
  have h4 := h.1
  have lp : ∀ (m j k : Nat), j + m = N → m < k → b_X7_allGone_4 n k t (tS (fun i => nI (pZ (T i))) j) (nI j) x = some (tS (fun i => nI (pZ (T i))) N, x) := by
    intro m
    induction m with
    | zero =>
      intro j k hj hk
      obtain ⟨k, rfl⟩ : ∃ e, k = e + 1 := ⟨k - 1, by omega⟩
      rw [b_X7_allGone_4, h.2.1, if_pos (nI_le (by omega) (by omega)), show j = N from by omega]
    | succ m ih =>
      intro j k hj hk
      obtain ⟨k, rfl⟩ : ∃ e, k = e + 1 := ⟨k - 1, by omega⟩
      have hP := h.2.2.2 j (by omega)
      have hz := hP.1.2.2.2
      have ih2 := ih (j + 1) k (by omega) (by omega)
      rw [b_X7_allGone_4, h.2.1, if_neg (nI_ge (by omega) (by omega)), S_one (by omega), ob, hP.2.2.2.2.2.1]
      unfold b_X7_allGone_29
      rw [show tS (fun i => nI (pZ (T i))) (j + 1) = tS (fun i => nI (pZ (T i))) j + nI (pZ (T j)) from rfl, ← nI_add, ← li1] at ih2
      rcases (show pZ (T j) = 0 ∨ pZ (T j) = 1 by omega) with e | e
      · rw [e] at ih2 ⊢
        rw [if_pos (show nI 0 = 0 from rfl)]
        exact ih2
      · rw [e] at ih2 ⊢
        rw [if_neg (by decide)]
        exact ih2
  unfold f_X7_allGone
  exact lp N 0 n (by omega) (by omega)
theorem S_forgive {n t N w : Nat} {T : Nat → PS} {x : am_X} (hn : 100 ≤ n) (h : cT x t N w T) : ∃ x', f_X7_forgive n t x = some (tS (fun i => nI (pO (T i))) N, x') ∧ cT x' t N w (tG (fun P => (pK P, (pG P, (0, (pA P, (pZ P, pC P)))))) N T) ∧ fT t x x' := by
  have h4 := h.1
  have lp : ∀ (v : Int32) (m j k : Nat) (x : am_X), cT x t N w (tG (fun P => (pK P, (pG P, (0, (pA P, (pZ P, pC P)))))) j T) → j + m = N → m < k → ∃ x', b_X7_forgive_7 n k t v (nI j) x = some (v, x') ∧ cT x' t N w (tG (fun P => (pK P, (pG P, (0, (pA P, (pZ P, pC P)))))) N T) ∧ fT t x x' := by
    intro v m
    induction m with
    | zero =>
      intro j k x h hj hk
      obtain ⟨k, rfl⟩ : ∃ e, k = e + 1 := ⟨k - 1, by omega⟩
      rw [b_X7_forgive_7, h.2.1, if_pos (nI_le (by omega) (by omega))]
      have e : j = N := by omega
      subst e
      exact ⟨x, rfl, h, fT.rf⟩
    | succ m ih =>
      intro j k x h hj hk
      obtain ⟨k, rfl⟩ : ∃ e, k = e + 1 := ⟨k - 1, by omega⟩
      rw [b_X7_forgive_7, h.2.1, if_neg (nI_ge (by omega) (by omega)), S_one (by omega), ob, li1, nI_add]
      have hc := h.2.2.2 j (by omega)
      have hP2 : cP (sF x 4 3 (4 * t + j) (0 : Int32)) (4 * t + j) ((fun P : PS => ((pK P, (pG P, (0, (pA P, (pZ P, pC P))))) : PS)) (tG (fun P => (pK P, (pG P, (0, (pA P, (pZ P, pC P)))))) j T j)) := ⟨⟨hc.1.1, Nat.zero_le _, hc.1.2.2⟩, hc.2.1, by rw [xF_sF, if_neg (by omega)]; exact hc.2.2.1, by rw [xF_sF, if_pos ⟨rfl, rfl, rfl⟩]; rfl, by rw [xF_sF, if_neg (by omega)]; exact hc.2.2.2.2.1, by rw [xF_sF, if_neg (by omega)]; exact hc.2.2.2.2.2.1, by rw [xF_sF, if_neg (by omega)]; exact hc.2.2.2.2.2.2.1, hc.2.2.2.2.2.2.2⟩
      obtain ⟨x2, k1, k2, k3⟩ := ih (j + 1) k _ ((h.set (by omega) fP.put hP2).eq (fun i _ => tG_succ _ _ _ _)) (by omega) (by omega)
      exact ⟨x2, k1, k2, ((fP.put (i := 4 * t + j)).fT (by omega)).tr k3⟩
  unfold f_X7_forgive
  rw [S_allOwed hn h, ob]
  exact lp _ N 0 n x (h.eq (fun i _ => tG_0 _ _ _)) (by omega) (by omega)
