/-! CREDITS of the class: what its methods do to the list -/
def cr_rem (s : Nat) : Nat → List Nat → List Nat
  | _, [] => []
  | 0, c :: cs => c :: cs
  | m + 1, c :: cs => if cr_has s c = true then cr_rem s m cs else c :: cr_rem s (m + 1) cs
theorem cr_rem_0 (s : Nat) (cs : List Nat) : cr_rem s 0 cs = cs := by
  cases cs <;> rfl
theorem cr_rem_len (s : Nat) : ∀ (m : Nat) (cs : List Nat), (cr_rem s m cs).length ≤ cs.length := by
  intro m cs
  induction cs generalizing m with
  | nil => cases m <;> exact Nat.le_refl _
  | cons c cs ih =>
    cases m with
    | zero => exact Nat.le_refl _
    | succ m =>
      unfold cr_rem
      split
      · have := ih m
        simp only [List.length_cons]
        omega
      · have := ih (m + 1)
        simp only [List.length_cons]
        omega
theorem cr_rem_mem (s : Nat) : ∀ (m : Nat) (cs : List Nat) (c : Nat), c ∈ cr_rem s m cs → c ∈ cs := by
  intro m cs
  induction cs generalizing m with
  | nil =>
    intro c h
    cases m <;> exact h
  | cons a cs ih =>
    intro c h
    cases m with
    | zero => exact h
    | succ m =>
      unfold cr_rem at h
      split at h
      · exact List.mem_cons_of_mem _ (ih m c h)
      · rcases List.mem_cons.mp h with h | h
        · rw [h]; exact List.mem_cons_self
        · exact List.mem_cons_of_mem _ (ih (m + 1) c h)
/-- while a list is drawn together: done at the front, from p on what was -/
def cM (x : am_X) (i : Nat) (cs : List Nat) (dn : List Nat) (p : Nat) : Prop := xF x 5 1 i = nI cs.length ∧ cs.length ≤ 12 ∧ (∀ c ∈ cs, cr_ok c) ∧ (∀ c ∈ dn, cr_ok c) ∧ dn.length ≤ p ∧ (∀ k, k < dn.length → xA x 12 i k = nI (cr_e (dn.getD k 0))) ∧ ∀ k, p ≤ k → k < cs.length → xA x 12 i k = nI (cr_e (cs.getD k 0))
theorem cM.start {x : am_X} {i : Nat} {cs : List Nat} (h : cC x i cs) : cM x i cs [] 0 := ⟨h.1, h.2.1, h.2.2.1, (fun c hc => absurd hc List.not_mem_nil), Nat.le_refl _, (fun k hk => absurd hk (Nat.not_lt_zero k)), fun k _ hk => h.2.2.2 k hk⟩
theorem cr_getD_app {a : List Nat} {c k : Nat} : (a ++ [c]).getD k 0 = if k < a.length then a.getD k 0 else if k = a.length then c else 0 := by
  rw [List.getD_eq_getElem?_getD, List.getElem?_append]
  split
  · rw [List.getD_eq_getElem?_getD]
  · rename_i h
    split
    · rename_i h2
      rw [h2, Nat.sub_self]
      rfl
    · rename_i h2
      rw [List.getElem?_eq_none (by simp; omega)]
      rfl
theorem cM.keep {x : am_X} {i : Nat} {cs dn : List Nat} {p : Nat} (h : cM x i cs dn p) (hp : p < cs.length) : cM (sA x 12 i dn.length (xA x 12 i p)) i cs (dn ++ [cs.getD p 0]) (p + 1) := by
  obtain ⟨h1, h2, h3, h4, h5, h6, h7⟩ := h
  refine ⟨h1, h2, h3, ?_, ?_, ?_, ?_⟩
  · intro c hc
    rcases List.mem_append.mp hc with hc | hc
    · exact h4 c hc
    · rw [List.mem_singleton.mp hc]
      exact h3 _ (cr_mem hp)
  · rw [List.length_append]
    simp only [List.length_cons, List.length_nil]
    omega
  · intro k hk
    rw [List.length_append] at hk
    simp only [List.length_cons, List.length_nil] at hk
    rw [xA_sA, cr_getD_app]
    by_cases e : k = dn.length
    · rw [if_pos ⟨rfl, rfl, e⟩, if_neg (by omega), if_pos e, h7 p (Nat.le_refl p) hp]
    · rw [if_neg (fun z => e z.2.2), if_pos (by omega)]
      exact h6 k (by omega)
  · intro k h8 h9
    rw [xA_sA, if_neg (by omega)]
    exact h7 k (by omega) h9
theorem cM.skip {x : am_X} {i : Nat} {cs dn : List Nat} {p : Nat} (h : cM x i cs dn p) : cM x i cs dn (p + 1) := ⟨h.1, h.2.1, h.2.2.1, h.2.2.2.1, Nat.le_succ_of_le h.2.2.2.2.1, h.2.2.2.2.2.1, fun k h1 h2 => h.2.2.2.2.2.2 k (by omega) h2⟩
theorem cM.stop {x : am_X} {i : Nat} {cs dn : List Nat} {p : Nat} (h : cM x i cs dn p) (hp : p ≤ cs.length) : cC (sF x 5 1 i (nI dn.length)) i dn := ⟨by rw [xF_sF, if_pos ⟨rfl, rfl, rfl⟩], by have := h.2.1; have := h.2.2.2.2.1; omega, h.2.2.2.1, fun k hk => by rw [xA_sF]; exact h.2.2.2.2.2.1 k hk⟩
theorem fC.put {i : Nat} {x : am_X} {q : Nat} {v : Int32} : fC i x (sA x 12 i q v) := ⟨fun _ _ _ _ => rfl, fun t j q' h => by rw [xA_sA, if_neg (fun z => h ⟨z.1, z.2.1⟩)], rfl⟩
theorem fC.set {i : Nat} {x : am_X} {v : Int32} : fC i x (sF x 5 1 i v) := ⟨fun t k j h => by rw [xF_sF, if_neg h], fun _ _ _ _ => rfl, rfl⟩
theorem S_ahead_lp {n i : Nat} {fw : Int32} {cs : List Nat} (h1 : -100000 ≤ fw.toInt) (h2 : fw.toInt ≤ 100000) : ∀ (m p k : Nat) (dn : List Nat) (x : am_X), cM x i cs dn p → p + m = cs.length → m < k → ∃ x', b_X0_dropAheadOf_4 n k i fw (nI dn.length) (nI p) x = some x' ∧ cC x' i (dn ++ (cs.drop p).filter (fun c => decide (fw.toInt ≤ ((c / 4 : Nat) : Int)))) ∧ fC i x x' := by
  intro m
  induction m with
  | zero =>
    intro p k dn x h hp hk
    obtain ⟨k, rfl⟩ : ∃ e, k = e + 1 := ⟨k - 1, by omega⟩
    refine ⟨sF x 5 1 i (nI dn.length), ?_, ?_, fC.set⟩
    · rw [b_X0_dropAheadOf_4, h.1, if_pos (nI_le (by omega) (by have := h.2.1; omega))]
    · rw [List.drop_eq_nil_of_le (by omega), List.filter_nil, List.append_nil]
      exact h.stop (by omega)
  | succ m ih =>
    intro p k dn x h hp hk
    obtain ⟨k, rfl⟩ : ∃ e, k = e + 1 := ⟨k - 1, by omega⟩
    have hl := h.2.1
    have hpl : p < cs.length := by omega
    have hok := h.2.2.1 _ (cr_mem hpl)
    have hdn := h.2.2.2.2.1
    rw [b_X0_dropAheadOf_4, h.1, if_neg (nI_ge hpl (by omega)), li12, if_neg (nI_ge (by omega) (by omega)), if_pos (am_inB_nI (by omega) (by omega)), nI_c (by omega), nI_c (by omega), h.2.2.2.2.2.2 p (Nat.le_refl p) hpl, cr_drop hpl]
    unfold b_X0_dropAheadOf_45
    by_cases hlt : (((cs.getD p 0) / 4 : Nat) : Int) < fw.toInt
    · rw [if_pos ((cr_lt3 _ fw h1 h2 hok).mpr hlt), li1, nI_add]
      obtain ⟨x', g1, g2, g3⟩ := ih (p + 1) k dn x h.skip (by omega) (by omega)
      refine ⟨x', g1, ?_, g3⟩
      rw [List.filter_cons_of_neg (by simp only [decide_eq_true_eq]; omega)]
      exact g2
    · rw [if_neg (fun z => hlt ((cr_lt3 _ fw h1 h2 hok).mp z)), if_pos (am_inB_nI (by omega) (by omega)), if_pos (am_inB_nI (by omega) (by omega)), li1, nI_add, nI_add]
      have hk2 := h.keep hpl
      rw [h.2.2.2.2.2.2 p (Nat.le_refl p) hpl] at hk2
      have hlen : (dn ++ [cs.getD p 0]).length = dn.length + 1 := by rw [List.length_append]; rfl
      obtain ⟨x', g1, g2, g3⟩ := ih (p + 1) k (dn ++ [cs.getD p 0]) _ hk2 (by omega) (by omega)
      rw [hlen] at g1
      refine ⟨x', g1, ?_, fC.put.tr g3⟩
      rw [List.filter_cons_of_pos (by simp only [decide_eq_true_eq]; omega)]
      rw [List.append_assoc] at g2
      exact g2
theorem S_ahead {n i : Nat} {fw : Int32} {cs : List Nat} {x : am_X} (hn : 100 ≤ n) (h : cC x i cs) (h1 : -100000 ≤ fw.toInt) (h2 : fw.toInt ≤ 100000) : ∃ x', f_X0_dropAheadOf n i fw x = some x' ∧ cC x' i (cs.filter (fun c => decide (fw.toInt ≤ ((c / 4 : Nat) : Int)))) ∧ fC i x x' := by
  unfold f_X0_dropAheadOf
  have hl := h.2.1
  obtain ⟨x', g1, g2, g3⟩ := S_ahead_lp (n := n) h1 h2 cs.length 0 n [] x (cM.start h) (by omega) (by omega)
  exact ⟨x', g1, by simpa using g2, g3⟩
theorem S_oldest_lp {n i s : Nat} {cs : List Nat} (hs : s < 8) {x : am_X} (h : cC x i cs) : ∀ (m p k : Nat), p + m = cs.length → m < k → b_X0_oldestWeek_2 n k i (nI s) (nI p) x = some ((match (cs.drop p).find? (cr_has s) with | some c => nI (c / 4) | none => -1), x) := by
  intro m
  induction m with
  | zero =>
    intro p k hp hk
    obtain ⟨k, rfl⟩ : ∃ e, k = e + 1 := ⟨k - 1, by omega⟩
    rw [b_X0_oldestWeek_2, h.1, if_pos (nI_le (by omega) (by have := h.2.1; omega)), List.drop_eq_nil_of_le (by omega)]
    rfl
  | succ m ih =>
    intro p k hp hk
    obtain ⟨k, rfl⟩ : ∃ e, k = e + 1 := ⟨k - 1, by omega⟩
    have hl := h.2.1
    have hpl : p < cs.length := by omega
    have hok := h.2.2.1 _ (cr_mem hpl)
    rw [b_X0_oldestWeek_2, h.1, if_neg (nI_ge hpl (by omega)), li12, if_neg (nI_ge (by omega) (by omega)), if_pos (am_inB_nI (by omega) (by omega)), nI_c (by omega), h.2.2.2 p hpl, cr_drop hpl, List.find?_cons]
    cases hb : cr_has s (cs.getD p 0) with
    | true =>
      rw [S_isOf_t x hok hs hb, ob, if_neg n10, if_pos (am_inB_nI (by omega) (by omega)), h.2.2.2 p hpl, li3, nI_div (by have := cr_e_lt hok; omega) (by omega) (by omega), cr_e_div hok]
    | false =>
      rw [S_isOf_f x hok hs hb, ob, if_pos rfl, li1, nI_add, ih (p + 1) k (by omega) (by omega)]
      rfl
theorem S_oldest {n i s : Nat} {cs : List Nat} {x : am_X} (hn : 100 ≤ n) (hs : s < 8) (h : cC x i cs) : f_X0_oldestWeek n i (nI s) x = some ((match cs.find? (cr_has s) with | some c => nI (c / 4) | none => -1), x) := by
  unfold f_X0_oldestWeek
  have hl := h.2.1
  rw [li0, S_oldest_lp hs h cs.length 0 n (by omega) (by omega), List.drop_zero]
theorem S_dropOldest_lp {n i s : Nat} {cs : List Nat} (hs : s < 8) : ∀ (m p k left : Nat) (dn : List Nat) (x : am_X), cM x i cs dn p → p + m = cs.length → m < k → left < 1000 → ∃ x', b_X0_dropOldest_8 n k i (nI s) (nI left) (nI dn.length) (nI p) x = some x' ∧ cC x' i (dn ++ cr_rem s left (cs.drop p)) ∧ fC i x x' := by
  intro m
  induction m with
  | zero =>
    intro p k left dn x h hp hk hle
    obtain ⟨k, rfl⟩ : ∃ e, k = e + 1 := ⟨k - 1, by omega⟩
    refine ⟨sF x 5 1 i (nI dn.length), ?_, ?_, fC.set⟩
    · rw [b_X0_dropOldest_8, h.1, if_pos (nI_le (by omega) (by have := h.2.1; omega))]
    · rw [List.drop_eq_nil_of_le (by omega), show cr_rem s left [] = [] from by cases left <;> rfl, List.append_nil]
      exact h.stop (by omega)
  | succ m ih =>
    intro p k left dn x h hp hk hle
    obtain ⟨k, rfl⟩ : ∃ e, k = e + 1 := ⟨k - 1, by omega⟩
    have hl := h.2.1
    have hpl : p < cs.length := by omega
    have hok := h.2.2.1 _ (cr_mem hpl)
    have hdn := h.2.2.2.2.1
    have hrow := h.2.2.2.2.2.2 p (Nat.le_refl p) hpl
    have hk2 := h.keep hpl
    rw [hrow] at hk2
    have hlen : (dn ++ [cs.getD p 0]).length = dn.length + 1 := by rw [List.length_append]; rfl
    -- the one at p stays
    have stay : ∀ left', left' < 1000 → ∃ x', b_X0_dropOldest_48 n (b_X0_dropOldest_8 n k) i (nI s) (nI left') (nI dn.length) (nI p) x = some x' ∧ cC x' i (dn ++ (cs.getD p 0 :: cr_rem s left' (cs.drop (p + 1)))) ∧ fC i x x' := by
      intro left' hle'
      unfold b_X0_dropOldest_48 b_X0_dropOldest_65
      rw [if_pos (am_inB_nI (by omega) (by omega)), if_pos (am_inB_nI (by omega) (by omega)), nI_c (by omega), nI_c (by omega), hrow, li1, nI_add, nI_add]
      obtain ⟨x', g1, g2, g3⟩ := ih (p + 1) k left' (dn ++ [cs.getD p 0]) _ hk2 (by omega) (by omega) hle'
      rw [hlen] at g1
      refine ⟨x', g1, ?_, fC.put.tr g3⟩
      rw [List.append_assoc] at g2
      exact g2
    rw [b_X0_dropOldest_8, h.1, if_neg (nI_ge hpl (by omega)), li12, if_neg (nI_ge (by omega) (by omega)), cr_drop hpl]
    cases left with
    | zero =>
      rw [if_pos (by decide)]
      obtain ⟨x', g1, g2, g3⟩ := stay 0 (by omega)
      refine ⟨x', g1, ?_, g3⟩
      rw [cr_rem_0] at g2
      rw [cr_rem_0]
      exact g2
    | succ left =>
      rw [if_neg (by rw [li0]; exact nI_ge (by omega) (by omega)), if_pos (am_inB_nI (by omega) (by omega)), nI_c (by omega), hrow]
      unfold cr_rem
      cases hb : cr_has s (cs.getD p 0) with
      | true =>
        rw [S_isOf_t x hok hs hb, ob, if_neg n10, if_pos rfl]
        unfold b_X0_dropOldest_65
        rw [pk_m1, li1, nI_add]
        exact ih (p + 1) k left dn x h.skip (by omega) (by omega) (by omega)
      | false =>
        rw [S_isOf_f x hok hs hb, ob, if_pos rfl, if_neg (by decide)]
        exact stay (left + 1) hle
theorem S_dropOldest {n i s left : Nat} {cs : List Nat} {x : am_X} (hn : 100 ≤ n) (hs : s < 8) (hle : left < 1000) (h : cC x i cs) : ∃ x', f_X0_dropOldest n i (nI s) (nI left) x = some x' ∧ cC x' i (cr_rem s left cs) ∧ fC i x x' := by
  unfold f_X0_dropOldest
  have hl := h.2.1
  obtain ⟨x', g1, g2, g3⟩ := S_dropOldest_lp (n := n) hs cs.length 0 n left [] x (cM.start h) (by omega) (by omega) hle
  exact ⟨x', g1, by simpa using g2, g3⟩
theorem S_hasRoom {n i : Nat} {cs : List Nat} {x : am_X} (h : cC x i cs) : f_X0_hasRoom n i x = some ((if cs.length < 12 then 1 else 0), x) := by
  unfold f_X0_hasRoom
  rw [h.1, li12]
  have hl := h.2.1
  by_cases e : cs.length < 12
  · rw [if_neg (nI_ge e (by omega)), if_pos e]
  · rw [if_pos (nI_le (by omega) (by omega)), if_neg e]
theorem S_copyC_lp {n i j : Nat} {cs : List Nat} (hij : i ≠ j) : ∀ (m p k : Nat) (x : am_X), cC x j cs → (∀ q, q < p → xA x 12 i q = nI (cr_e (cs.getD q 0))) → p + m = cs.length → m < k → ∃ x', b_X0_copy_2 n k i j (nI p) x = some x' ∧ cC x' i cs ∧ fC i x x' := by
  intro m
  induction m with
  | zero =>
    intro p k x h hq hp hk
    obtain ⟨k, rfl⟩ : ∃ e, k = e + 1 := ⟨k - 1, by omega⟩
    refine ⟨sF x 5 1 i (nI cs.length), ?_, ⟨by rw [xF_sF, if_pos ⟨rfl, rfl, rfl⟩], h.2.1, h.2.2.1, fun q hq' => by rw [xA_sF]; exact hq q (by omega)⟩, fC.set⟩
    rw [b_X0_copy_2, h.1, if_pos (nI_le (by omega) (by have := h.2.1; omega))]
    unfold b_X0_copy_34
    rw [h.1]
  | succ m ih =>
    intro p k x h hq hp hk
    obtain ⟨k, rfl⟩ : ∃ e, k = e + 1 := ⟨k - 1, by omega⟩
    have hl := h.2.1
    have hpl : p < cs.length := by omega
    rw [b_X0_copy_2, h.1, if_neg (nI_ge hpl (by omega)), li12, if_neg (nI_ge (by omega) (by omega)), if_pos (am_inB_nI (by omega) (by omega)), if_pos (am_inB_nI (by omega) (by omega)), nI_c (by omega), li1, nI_add]
    obtain ⟨x', g1, g2, g3⟩ := ih (p + 1) k (sA x 12 i p (xA x 12 j p)) ⟨h.1, h.2.1, h.2.2.1, fun q hq' => by rw [xA_sA, if_neg (fun z => hij z.2.1.symm)]; exact h.2.2.2 q hq'⟩ (by
      intro q hq'
      rw [xA_sA]
      by_cases e : q = p
      · rw [if_pos ⟨rfl, rfl, e⟩, h.2.2.2 p hpl, e]
      · rw [if_neg (fun z => e z.2.2)]
        exact hq q (by omega)) (by omega) (by omega)
    exact ⟨x', g1, g2, fC.put.tr g3⟩
theorem S_copyC {n i j : Nat} {cs : List Nat} {x : am_X} (hn : 100 ≤ n) (hij : i ≠ j) (h : cC x j cs) : ∃ x', f_X0_copy n i j x = some x' ∧ cC x' i cs ∧ fC i x x' := by
  unfold f_X0_copy
  have hl := h.2.1
  exact S_copyC_lp hij cs.length 0 n x h (fun q hq => absurd hq (Nat.not_lt_zero q)) (by omega) (by omega)
