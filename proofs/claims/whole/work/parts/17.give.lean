/-! a CREDIT given: the place from the end on -/
def cr_pos (c : Nat) (cs : List Nat) : Nat → Nat
  | 0 => 0
  | p + 1 => if c < cs.getD p 0 then cr_pos c cs p else p + 1
def cr_at (c p : Nat) (cs : List Nat) : List Nat := cs.take p ++ c :: cs.drop p
def cr_ins (c : Nat) (cs : List Nat) : List Nat := cr_at c (cr_pos c cs cs.length) cs
def cr_giv (c : Nat) (cs : List Nat) : List Nat := if cs.length < 12 then cr_ins c cs else cs
theorem cr_pos_le (c : Nat) (cs : List Nat) : ∀ p, cr_pos c cs p ≤ p := by
  intro p
  induction p with
  | zero => exact Nat.le_refl _
  | succ p ih =>
    unfold cr_pos
    split <;> omega
theorem cr_at_len {c p : Nat} {cs : List Nat} : (cr_at c p cs).length = cs.length + 1 := by
  unfold cr_at
  rw [List.length_append, List.length_cons, List.length_take, List.length_drop]
  omega
theorem cr_at_mem {c p a : Nat} {cs : List Nat} (h : a ∈ cr_at c p cs) : a = c ∨ a ∈ cs := by
  unfold cr_at at h
  rcases List.mem_append.mp h with h | h
  · exact Or.inr (List.mem_of_mem_take h)
  · rcases List.mem_cons.mp h with h | h
    · exact Or.inl h
    · exact Or.inr (List.mem_of_mem_drop h)
theorem cr_at_getD {c p k : Nat} {cs : List Nat} (hp : p ≤ cs.length) : (cr_at c p cs).getD k 0 = if k < p then cs.getD k 0 else if k = p then c else cs.getD (k - 1) 0 := by
  unfold cr_at
  rw [List.getD_eq_getElem?_getD, List.getElem?_append, List.length_take, Nat.min_eq_left hp]
  split
  · rename_i h
    rw [List.getElem?_take, if_pos h, List.getD_eq_getElem?_getD]
  · rename_i h
    split
    · rename_i h2
      rw [h2, Nat.sub_self]
      rfl
    · rename_i h2
      rw [show k - p = (k - p - 1) + 1 from by omega, List.getElem?_cons_succ, List.getElem?_drop, List.getD_eq_getElem?_getD, show p + (k - p - 1) = k - 1 from by omega]
theorem cr_giv_len {c : Nat} {cs : List Nat} (h : cs.length ≤ 12) : (cr_giv c cs).length ≤ 12 := by
  unfold cr_giv
  split
  · unfold cr_ins
    rw [cr_at_len]
    omega
  · exact h
theorem cr_giv_ok {c : Nat} {cs : List Nat} (hc : cr_ok c) (h : ∀ a ∈ cs, cr_ok a) : ∀ a ∈ cr_giv c cs, cr_ok a := by
  intro a ha
  unfold cr_giv at ha
  split at ha
  · rcases cr_at_mem ha with rfl | h2
    · exact hc
    · exact h a h2
  · exact h a ha
/-- while the later ones are moved up -/
def cG (x : am_X) (i : Nat) (cs : List Nat) (p : Nat) : Prop := xF x 5 1 i = nI cs.length ∧ cs.length < 12 ∧ (∀ c ∈ cs, cr_ok c) ∧ (∀ k, k < p → xA x 12 i k = nI (cr_e (cs.getD k 0))) ∧ ∀ k, p ≤ k → k < cs.length → xA x 12 i (k + 1) = nI (cr_e (cs.getD k 0))
theorem cG.stop {x : am_X} {i c p : Nat} {cs : List Nat} (h : cG x i cs p) (hp : p ≤ cs.length) (hc : cr_ok c) : cC (sF (sA x 12 i p (nI (cr_e c))) 5 1 i (nI (cs.length + 1))) i (cr_at c p cs) := by
  refine ⟨by rw [xF_sF, if_pos ⟨rfl, rfl, rfl⟩, cr_at_len], by rw [cr_at_len]; exact h.2.1, ?_, ?_⟩
  · intro a ha
    rcases cr_at_mem ha with rfl | h2
    · exact hc
    · exact h.2.2.1 a h2
  · intro k hk
    rw [cr_at_len] at hk
    rw [xA_sF, xA_sA, cr_at_getD hp]
    by_cases e : k = p
    · rw [if_pos ⟨rfl, rfl, e⟩, if_neg (by omega), if_pos e]
    · rw [if_neg (fun z => e z.2.2)]
      by_cases e2 : k < p
      · rw [if_pos e2]
        exact h.2.2.2.1 k e2
      · rw [if_neg e2, if_neg e, show k = (k - 1) + 1 from by omega]
        exact h.2.2.2.2 (k - 1) (by omega) (by omega)
theorem S_give_lp {n i c : Nat} {cs : List Nat} (hc : cr_ok c) : ∀ (p k : Nat) (x : am_X), cG x i cs p → p ≤ cs.length → p < k → ∃ x', b_X0_give_29 n k i (nI (cr_e c)) (nI p) x = some x' ∧ cC x' i (cr_at c (cr_pos c cs p) cs) ∧ fC i x x' := by
  intro p
  induction p with
  | zero =>
    intro k x h hp hk
    obtain ⟨k, rfl⟩ : ∃ e, k = e + 1 := ⟨k - 1, by omega⟩
    refine ⟨sF (sA x 12 i 0 (nI (cr_e c))) 5 1 i (nI (cs.length + 1)), ?_, h.stop hp hc, fC.put.tr fC.set⟩
    rw [b_X0_give_29, if_pos (by decide)]
    unfold b_X0_give_69
    rw [if_pos (am_inB_nI (by omega) (by omega)), nI_c (by omega), h.1, li1, nI_add]
  | succ p ih =>
    intro k x h hp hk
    obtain ⟨k, rfl⟩ : ∃ e, k = e + 1 := ⟨k - 1, by omega⟩
    have hl := h.2.1
    have hrow := h.2.2.2.1 p (by omega)
    have hok := h.2.2.1 _ (cr_mem (show p < cs.length by omega))
    rw [b_X0_give_29, if_neg (by rw [li0]; exact nI_ge (by omega) (by omega)), nI_pred, if_pos (am_inB_nI (by omega) (by omega)), nI_c (by omega), hrow, nI_c (by omega)]
    unfold cr_pos
    by_cases hlt : c < cs.getD p 0
    · rw [if_neg (nI_ge (Nat.not_le.mp (fun z => absurd ((cr_e_le hok hc).mp z) (by omega))) (by have := cr_e_lt hok; omega)), if_pos (am_inB_nI (by omega) (by omega)), if_pos (am_inB_nI (by omega) (by omega)), pk_m1, if_pos hlt]
      obtain ⟨x', g1, g2, g3⟩ := ih k (sA x 12 i (p + 1) (nI (cr_e (cs.getD p 0)))) ⟨h.1, h.2.1, h.2.2.1, fun q hq => by rw [xA_sA, if_neg (by omega)]; exact h.2.2.2.1 q (by omega), fun q h1 h2 => by
        rw [xA_sA]
        by_cases e : q = p
        · rw [if_pos ⟨rfl, rfl, by omega⟩, e]
        · rw [if_neg (by omega)]
          exact h.2.2.2.2 q (by omega) h2⟩ (by omega) (by omega)
      exact ⟨x', g1, g2, fC.put.tr g3⟩
    · rw [if_pos (nI_le ((cr_e_le hok hc).mpr (by omega)) (by have := cr_e_lt hc; omega)), if_neg hlt]
      refine ⟨sF (sA x 12 i (p + 1) (nI (cr_e c))) 5 1 i (nI (cs.length + 1)), ?_, h.stop hp hc, fC.put.tr fC.set⟩
      unfold b_X0_give_69
      rw [if_pos (am_inB_nI (by omega) (by omega)), nI_c (by omega), h.1, li1, nI_add]
/-- give(sort, week) -/
theorem S_give {n i w s : Nat} {cs : List Nat} {x : am_X} (hn : 100 ≤ n) (hs : s < 3) (hw : w < 2000) (h : cC x i cs) : ∃ x', f_X0_give n i (nI s) (nI w) x = some x' ∧ cC x' i (cr_giv (4 * w + s) cs) ∧ fC i x x' := by
  have hc : cr_ok (4 * w + s) := ⟨by omega, by omega⟩
  have he : cr_e (4 * w + s) = w * 3 + s := by unfold cr_e; omega
  have hl := h.2.1
  unfold f_X0_give cr_giv
  rw [h.1, if_neg (nI_pos (by omega)), li12, li3, pk_mul, nI_add, ← he]
  by_cases e : cs.length < 12
  · rw [if_pos (nI_lt e (by omega)), if_pos e]
    exact S_give_lp hc cs.length n x ⟨h.1, e, h.2.2.1, h.2.2.2, fun k h1 h2 => by omega⟩ (Nat.le_refl _) (by omega)
  · rw [if_neg (nI_nlt (by omega) (by omega)), if_neg e]
    exact ⟨x, rfl, h, fC.rf⟩
theorem fC.cC {i j : Nat} {x x' : am_X} {cs : List Nat} (h : fC i x x') (hij : j ≠ i) (hc : cC x j cs) : cC x' j cs := ⟨by rw [h.1 _ _ _ (fun z => hij z.2.2)]; exact hc.1, hc.2.1, hc.2.2.1, fun k hk => by rw [h.2.1 _ _ _ (fun z => hij z.2)]; exact hc.2.2.2 k hk⟩
/-- moveTo: all are given, one behind the other; those that found room are counted -/
def cr_mov (as bs : List Nat) : List Nat := as.foldl (fun acc c => cr_giv c acc) bs
theorem cr_mov_full (as : List Nat) {bs : List Nat} (h : ¬ bs.length < 12) : cr_mov as bs = bs := by
  unfold cr_mov
  induction as with
  | nil => rfl
  | cons c as ih =>
    rw [List.foldl_cons, show cr_giv c bs = bs from by unfold cr_giv; rw [if_neg h]]
    exact ih
theorem cr_giv_len' {c : Nat} {bs : List Nat} (h : bs.length < 12) : (cr_giv c bs).length = bs.length + 1 := by
  unfold cr_giv cr_ins
  rw [if_pos h, cr_at_len]
theorem S_moveTo_lp {n i j : Nat} {as : List Nat} (hn : 100 ≤ n) (hij : j ≠ i) : ∀ (m p k a : Nat) (bs : List Nat) (x : am_X), cC x i as → cC x j bs → p + m = as.length → m < k → a ≤ p → ∃ x', b_X0_moveTo_4 n k i j (nI a) (nI p) x = some (nI (a + Nat.min m (12 - bs.length)), x') ∧ cC x' i [] ∧ cC x' j (cr_mov (as.drop p) bs) ∧ (∀ t k' q, ¬ (t = 5 ∧ k' = 1 ∧ (q = i ∨ q = j)) → xF x' t k' q = xF x t k' q) ∧ (∀ t q r, ¬ (t = 12 ∧ (q = i ∨ q = j)) → xA x' t q r = xA x t q r) ∧ x'.2.2 = x.2.2 := by
  intro m
  induction m with
  | zero =>
    intro p k a bs x h hb hp hk ha
    obtain ⟨k, rfl⟩ : ∃ e, k = e + 1 := ⟨k - 1, by omega⟩
    refine ⟨sF x 5 1 i (nI 0), ?_, ⟨by rw [xF_sF, if_pos ⟨rfl, rfl, rfl⟩]; rfl, by decide, (fun c hc => absurd hc List.not_mem_nil), fun k hk => absurd hk (Nat.not_lt_zero k)⟩, ?_, ?_, fun _ _ _ _ => rfl, rfl⟩
    · rw [b_X0_moveTo_4, h.1, if_pos (nI_le (by omega) (by have := h.2.1; omega))]
      unfold b_X0_moveTo_54
      rw [li0, show Nat.min 0 (12 - bs.length) = 0 from Nat.zero_min _]
      rfl
    · rw [List.drop_eq_nil_of_le (by omega)]
      exact fC.set.cC hij hb
    · intro t k' q hq
      rw [xF_sF, if_neg (fun z => hq ⟨z.1, z.2.1, Or.inl z.2.2⟩)]
  | succ m ih =>
    intro p k a bs x h hb hp hk ha
    obtain ⟨k, rfl⟩ : ∃ e, k = e + 1 := ⟨k - 1, by omega⟩
    have hl := h.2.1
    have hpl : p < as.length := by omega
    have hok := h.2.2.1 _ (cr_mem hpl)
    rw [b_X0_moveTo_4, h.1, if_neg (nI_ge hpl (by omega)), li12, if_neg (nI_ge (by omega) (by omega)), S_hasRoom hb, ob]
    by_cases e : bs.length < 12
    · rw [if_pos e, if_neg n10, if_pos (am_inB_nI (by omega) (by omega)), if_pos (am_inB_nI (by omega) (by omega)), nI_c (by omega), h.2.2.2 p hpl, li3, nI_rem (by have := cr_e_lt hok; omega) (by omega) (by omega), nI_div (by have := cr_e_lt hok; omega) (by omega) (by omega), cr_e_mod hok, cr_e_div hok]
      obtain ⟨x1, g1, g2, g3⟩ := S_give (n := n) hn hok.1 (show (as.getD p 0) / 4 < 2000 from by have := hok.2; omega) hb
      rw [g1, ob, li1, nI_add, nI_add]
      rw [show 4 * (as.getD p 0 / 4) + as.getD p 0 % 4 = as.getD p 0 from by omega] at g2
      obtain ⟨x', k1, k2, k3, k4, k5, k6⟩ := ih (p + 1) k (a + 1) _ x1 (g3.cC (Ne.symm hij) h) g2 (by omega) (by omega) (by omega)
      refine ⟨x', ?_, k2, ?_, ?_, ?_, k6.trans g3.2.2⟩
      · rw [k1, cr_giv_len' e]
        congr 3
        simp only [Nat.min_def]
        split <;> split <;> omega
      · rw [cr_drop hpl]
        exact k3
      · intro t k' q hq
        rw [k4 t k' q hq, g3.1 t k' q (fun z => hq ⟨z.1, z.2.1, Or.inr z.2.2⟩)]
      · intro t q r hq
        rw [k5 t q r hq, g3.2.1 t q r (fun z => hq ⟨z.1, Or.inr z.2⟩)]
    · rw [if_neg e, if_pos rfl]
      refine ⟨sF x 5 1 i (nI 0), ?_, ⟨by rw [xF_sF, if_pos ⟨rfl, rfl, rfl⟩]; rfl, by decide, (fun c hc => absurd hc List.not_mem_nil), fun k hk => absurd hk (Nat.not_lt_zero k)⟩, ?_, ?_, fun _ _ _ _ => rfl, rfl⟩
      · unfold b_X0_moveTo_54
        rw [li0, show 12 - bs.length = 0 from by omega, show Nat.min (m + 1) 0 = 0 from Nat.min_zero _]
        rfl
      · rw [cr_mov_full _ e]
        exact fC.set.cC hij hb
      · intro t k' q hq
        rw [xF_sF, if_neg (fun z => hq ⟨z.1, z.2.1, Or.inl z.2.2⟩)]
theorem S_moveTo {n i j : Nat} {as bs : List Nat} {x : am_X} (hn : 100 ≤ n) (hij : j ≠ i) (h : cC x i as) (hb : cC x j bs) : ∃ x', f_X0_moveTo n i j x = some (nI (Nat.min as.length (12 - bs.length)), x') ∧ cC x' i [] ∧ cC x' j (cr_mov as bs) ∧ (∀ t k' q, ¬ (t = 5 ∧ k' = 1 ∧ (q = i ∨ q = j)) → xF x' t k' q = xF x t k' q) ∧ (∀ t q r, ¬ (t = 12 ∧ (q = i ∨ q = j)) → xA x' t q r = xA x t q r) ∧ x'.2.2 = x.2.2 := by
  unfold f_X0_moveTo
  have hl := h.2.1
  obtain ⟨x', g1, g2, g3, g4⟩ := S_moveTo_lp (n := n) hn hij as.length 0 n 0 bs x h hb (by omega) (by omega) (Nat.le_refl _)
  rw [List.drop_zero] at g3
  rw [Nat.zero_add] at g1
  exact ⟨x', g1, g2, g3, g4⟩
