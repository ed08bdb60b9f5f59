/-! CREDITS of the reference -/
def cr_lap (lo : Int) (cs : List Nat) : List Nat := cs.filter (fun c => decide (lo ≤ ((c / 4 : Nat) : Int)))
def mC (z : am_X) (p : Nat) (cs : List Nat) : Prop := xA z 53 0 p = nI cs.length ∧ cs.length ≤ 12 ∧ (∀ c ∈ cs, cr_ok c) ∧ ∀ k, k < cs.length → xA z 54 0 (12 * p + k) = nI (cs.getD k 0)
/-- nothing but the CREDITS of number p has changed -/
def fM (p : Nat) (z z' : am_X) : Prop := (∀ t k j, xF z' t k j = xF z t k j) ∧ (∀ t i q, ¬ (t = 53 ∧ q = p) → ¬ (t = 54 ∧ 12 * p ≤ q ∧ q < 12 * p + 12) → xA z' t i q = xA z t i q) ∧ z'.2.2 = z.2.2
theorem fM.rf {p : Nat} {z : am_X} : fM p z z := ⟨fun _ _ _ => rfl, fun _ _ _ _ _ => rfl, rfl⟩
theorem fM.tr {p : Nat} {x y z : am_X} (h : fM p x y) (h' : fM p y z) : fM p x z := ⟨fun t k j => (h'.1 t k j).trans (h.1 t k j), fun t j q h1 h2 => (h'.2.1 t j q h1 h2).trans (h.2.1 t j q h1 h2), h'.2.2.trans h.2.2⟩
theorem fM.put {p k : Nat} {z : am_X} {v : Int32} (hk : k < 12) : fM p z (sA z 54 0 (12 * p + k) v) := ⟨fun _ _ _ => rfl, fun t i q h1 h2 => by rw [xA_sA, if_neg (fun e => h2 ⟨e.1, by omega, by omega⟩)], rfl⟩
theorem fM.set {p : Nat} {z : am_X} {v : Int32} : fM p z (sA z 53 0 p v) := ⟨fun _ _ _ => rfl, fun t i q h1 h2 => by rw [xA_sA, if_neg (fun e => h1 ⟨e.1, e.2.2⟩)], rfl⟩
theorem fM.mC {p q : Nat} {z z' : am_X} {cs : List Nat} (h : fM p z z') (hpq : q ≠ p) (hc : mC z q cs) : mC z' q cs := by
  have hl := hc.2.1
  refine ⟨by rw [h.2.1 _ _ _ (fun e => hpq e.2) (fun e => by cases e.1)]; exact hc.1, hc.2.1, hc.2.2.1, fun k hk => ?_⟩
  rw [h.2.1 _ _ _ (fun e => by cases e.1) (fun e => by omega)]
  exact hc.2.2.2 k hk
theorem M_has {n s k : Nat} (z : am_X) (hs : s < 8) (hk : k < 3) : f_X9_has n (nI s) (nI k) z = some ((if s.testBit k then 1 else 0), z) := by
  unfold f_X9_has
  by_cases h : s.testBit k = true
  · rw [if_neg (fun e => e ((cr_bitm s hs k hk).mpr h)), if_pos h]
  · rw [if_pos (fun e => h ((cr_bitm s hs k hk).mp e)), if_neg h]
theorem M_has_t {n s c : Nat} (z : am_X) (hs : s < 8) (hc : cr_ok c) (h : cr_has s c = true) : f_X9_has n (nI s) (nI (c % 4)) z = some (1, z) := by
  rw [M_has z hs hc.1, show s.testBit (c % 4) = true from h]
  rfl
theorem M_has_f {n s c : Nat} (z : am_X) (hs : s < 8) (hc : cr_ok c) (h : cr_has s c = false) : f_X9_has n (nI s) (nI (c % 4)) z = some (0, z) := by
  rw [M_has z hs hc.1, show s.testBit (c % 4) = false from h]
  rfl
theorem M_count_lp {n p s : Nat} {z : am_X} {cs : List Nat} (hp5 : p < 5) (h : mC z p cs) (hs : s < 8) : ∀ (m q k a : Nat), q + m = cs.length → m < k → b_X9_countOf_5 n k 0 (nI p) (nI s) (nI a) (nI q) z = some (nI (a + (cs.drop q).countP (cr_has s)), z) := by
  intro m
  induction m with
  | zero =>
    intro q k a hq hk
    obtain ⟨k, rfl⟩ : ∃ e, k = e + 1 := ⟨k - 1, by omega⟩
    rw [b_X9_countOf_5, if_pos (am_inB_nI (by omega) (by omega)), nI_c (by omega), h.1, if_pos (nI_le (by omega) (by have := h.2.1; omega)), List.drop_eq_nil_of_le (by omega)]
    rfl
  | succ m ih =>
    intro q k a hq hk
    obtain ⟨k, rfl⟩ : ∃ e, k = e + 1 := ⟨k - 1, by omega⟩
    have hl := h.2.1
    have hql : q < cs.length := by omega
    have hok := h.2.2.1 _ (cr_mem hql)
    have hc := hok.2
    rw [b_X9_countOf_5, if_pos (am_inB_nI (by omega) (by omega)), nI_c (by omega), h.1, if_neg (nI_ge hql (by omega)), li12, pk_mul, nI_add, if_pos (am_inB_nI (by omega) (by omega)), nI_c (by omega), h.2.2.2 q hql, li4, nI_rem (by omega) (by omega) (by omega), cr_drop hql, List.countP_cons]
    unfold b_X9_countOf_43
    cases hb : cr_has s (cs.getD q 0) with
    | true =>
      rw [M_has_t z hs hok hb, ob, if_neg n10, li1, nI_add, nI_add, ih (q + 1) k (a + 1) (by omega) (by omega), if_pos rfl]
      congr 3
      omega
    | false =>
      rw [M_has_f z hs hok hb, ob, if_pos rfl, li0, nI_add, li1, nI_add, ih (q + 1) k (a + 0) (by omega) (by omega), if_neg (by decide)]
      rfl
theorem M_count {n p s : Nat} {z : am_X} {cs : List Nat} (hn : 100 ≤ n) (hp5 : p < 5) (h : mC z p cs) (hs : s < 8) : f_X9_countOf n 0 (nI p) (nI s) z = some (nI (cs.countP (cr_has s)), z) := by
  unfold f_X9_countOf
  have hl := h.2.1
  rw [li0, M_count_lp hp5 h hs cs.length 0 n 0 (by omega) (by omega), List.drop_zero, Nat.zero_add]
def mM (z : am_X) (p : Nat) (cs : List Nat) (dn : List Nat) (q : Nat) : Prop := xA z 53 0 p = nI cs.length ∧ cs.length ≤ 12 ∧ (∀ c ∈ cs, cr_ok c) ∧ (∀ c ∈ dn, cr_ok c) ∧ dn.length ≤ q ∧ (∀ k, k < dn.length → xA z 54 0 (12 * p + k) = nI (dn.getD k 0)) ∧ ∀ k, q ≤ k → k < cs.length → xA z 54 0 (12 * p + k) = nI (cs.getD k 0)
theorem mM.start {z : am_X} {p : Nat} {cs : List Nat} (h : mC z p cs) : mM z p cs [] 0 := ⟨h.1, h.2.1, h.2.2.1, (fun c hc => absurd hc List.not_mem_nil), Nat.le_refl _, (fun k hk => absurd hk (Nat.not_lt_zero k)), fun k _ hk => h.2.2.2 k hk⟩
theorem mM.keep {z : am_X} {p : Nat} {cs dn : List Nat} {q : Nat} (h : mM z p cs dn q) (hq : q < cs.length) : mM (sA z 54 0 (12 * p + dn.length) (nI (cs.getD q 0))) p cs (dn ++ [cs.getD q 0]) (q + 1) := by
  obtain ⟨h1, h2, h3, h4, h5, h6, h7⟩ := h
  refine ⟨h1, h2, h3, ?_, ?_, ?_, ?_⟩
  · intro c hc
    rcases List.mem_append.mp hc with hc | hc
    · exact h4 c hc
    · rw [List.mem_singleton.mp hc]
      exact h3 _ (cr_mem hq)
  · rw [List.length_append]
    simp only [List.length_cons, List.length_nil]
    omega
  · intro k hk
    rw [List.length_append] at hk
    simp only [List.length_cons, List.length_nil] at hk
    rw [xA_sA, cr_getD_app]
    by_cases e : k = dn.length
    · rw [if_pos ⟨rfl, rfl, by omega⟩, if_neg (by omega), if_pos e]
    · rw [if_neg (fun w => by omega), if_pos (by omega)]
      exact h6 k (by omega)
  · intro k h8 h9
    rw [xA_sA, if_neg (by omega)]
    exact h7 k (by omega) h9
theorem mM.skip {z : am_X} {p : Nat} {cs dn : List Nat} {q : Nat} (h : mM z p cs dn q) : mM z p cs dn (q + 1) := ⟨h.1, h.2.1, h.2.2.1, h.2.2.2.1, Nat.le_succ_of_le h.2.2.2.2.1, h.2.2.2.2.2.1, fun k h1 h2 => h.2.2.2.2.2.2 k (by omega) h2⟩
theorem mM.stop {z : am_X} {p : Nat} {cs dn : List Nat} {q : Nat} (h : mM z p cs dn q) (hq : q ≤ cs.length) : mC (sA z 53 0 p (nI dn.length)) p dn := ⟨by rw [xA_sA, if_pos ⟨rfl, rfl, rfl⟩], by have := h.2.1; have := h.2.2.2.2.1; omega, h.2.2.2.1, fun k hk => by rw [xA_sA, if_neg (fun e => by cases e.1)]; exact h.2.2.2.2.2.1 k hk⟩
theorem M_lapse_lp {n p now L : Nat} {cs : List Nat} (hp5 : p < 5) (hnow : now < 100000) (hL : L < 100000) : ∀ (m q k : Nat) (dn : List Nat) (z : am_X), xF z 32 2 0 = nI L → mM z p cs dn q → q + m = cs.length → m < k → ∃ z', b_X9_lapseOf_5 n k 0 (nI p) (nI now) (nI dn.length) (nI q) z = some z' ∧ mC z' p (dn ++ cr_lap ((now : Int) - L) (cs.drop q)) ∧ fM p z z' := by
  intro m
  induction m with
  | zero =>
    intro q k dn z hf h hq hk
    obtain ⟨k, rfl⟩ : ∃ e, k = e + 1 := ⟨k - 1, by omega⟩
    refine ⟨sA z 53 0 p (nI dn.length), ?_, ?_, fM.set⟩
    · rw [b_X9_lapseOf_5, if_pos (am_inB_nI (by omega) (by omega)), nI_c (by omega), h.1, if_pos (nI_le (by omega) (by have := h.2.1; omega)), if_pos (am_inB_nI (by omega) (by omega))]
    · rw [List.drop_eq_nil_of_le (by omega)]
      unfold cr_lap
      rw [List.filter_nil, List.append_nil]
      exact h.stop (by omega)
  | succ m ih =>
    intro q k dn z hf h hq hk
    obtain ⟨k, rfl⟩ : ∃ e, k = e + 1 := ⟨k - 1, by omega⟩
    have hl := h.2.1
    have hql : q < cs.length := by omega
    have hok := h.2.2.1 _ (cr_mem hql)
    have hc := hok.2
    have hdn := h.2.2.2.2.1
    have hcond : nI L < nI now - nI (cs.getD q 0 / 4) ↔ ¬ ((now : Int) - L ≤ ((cs.getD q 0 / 4 : Nat) : Int)) := by
      rw [Int32.lt_iff_toInt_lt, nI_toInt (by omega), pk_sub_toInt (by omega) (by omega)]
      omega
    rw [b_X9_lapseOf_5, if_pos (am_inB_nI (by omega) (by omega)), nI_c (by omega), h.1, if_neg (nI_ge hql (by omega)), li12, pk_mul, nI_add, nI_add, if_pos (am_inB_nI (by omega) (by omega)), nI_c (by omega), nI_c (by omega), h.2.2.2.2.2.2 q (Nat.le_refl q) hql, li4, nI_div (by omega) (by omega) (by omega), hf, cr_drop hql]
    unfold b_X9_lapseOf_59 cr_lap
    by_cases hlt : (now : Int) - L ≤ ((cs.getD q 0 / 4 : Nat) : Int)
    · rw [if_neg (fun e => hcond.mp e hlt), if_pos (am_inB_nI (by omega) (by omega)), li1, nI_add, nI_add]
      have hlen : (dn ++ [cs.getD q 0]).length = dn.length + 1 := by rw [List.length_append]; rfl
      obtain ⟨z', g1, g2, g3⟩ := ih (q + 1) k (dn ++ [cs.getD q 0]) (sA z 54 0 (12 * p + dn.length) (nI (cs.getD q 0))) hf (h.keep hql) (by omega) (by omega)
      rw [hlen] at g1
      refine ⟨z', g1, ?_, (fM.put (by omega)).tr g3⟩
      rw [List.filter_cons_of_pos (by simpa using hlt)]
      rw [List.append_assoc] at g2
      exact g2
    · rw [if_pos (hcond.mpr hlt), li1, nI_add]
      obtain ⟨z', g1, g2, g3⟩ := ih (q + 1) k dn z hf h.skip (by omega) (by omega)
      refine ⟨z', g1, ?_, g3⟩
      rw [List.filter_cons_of_neg (by simpa using hlt)]
      exact g2
theorem M_lapse {n p now L : Nat} {cs : List Nat} {z : am_X} (hn : 100 ≤ n) (hp5 : p < 5) (hnow : now < 100000) (hL : L < 100000) (hf : xF z 32 2 0 = nI L) (h : mC z p cs) : ∃ z', f_X9_lapseOf n 0 (nI p) (nI now) z = some z' ∧ mC z' p (cr_lap ((now : Int) - L) cs) ∧ fM p z z' := by
  unfold f_X9_lapseOf
  have hl := h.2.1
  obtain ⟨z', g1, g2, g3⟩ := M_lapse_lp (n := n) hp5 hnow hL cs.length 0 n [] z hf (mM.start h) (by omega) (by omega)
  exact ⟨z', g1, by simpa using g2, g3⟩
/-- take: its answer is the first one that went, if one went -/
theorem M_take_lp {n p s many : Nat} {cs : List Nat} (hp5 : p < 5) (hs : s < 8) (hm : many < 1000) : ∀ (m q k left : Nat) (fst : Int32) (dn : List Nat) (z : am_X), mM z p cs dn q → q + m = cs.length → m < k → left ≤ many → ∃ z', b_X9_take_12 n k 0 (nI p) (nI s) (nI many) (nI dn.length) (nI left) fst (nI q) z = some ((if left = many ∧ 0 < many then (match (cs.drop q).find? (cr_has s) with | some c => nI c | none => fst) else fst), z') ∧ mC z' p (dn ++ cr_rem s left (cs.drop q)) ∧ fM p z z' := by
  intro m
  induction m with
  | zero =>
    intro q k left fst dn z h hq hk hle
    obtain ⟨k, rfl⟩ : ∃ e, k = e + 1 := ⟨k - 1, by omega⟩
    refine ⟨sA z 53 0 p (nI dn.length), ?_, ?_, fM.set⟩
    · rw [b_X9_take_12, if_pos (am_inB_nI (by omega) (by omega)), nI_c (by omega), h.1, if_pos (nI_le (by omega) (by have := h.2.1; omega)), if_pos (am_inB_nI (by omega) (by omega)), List.drop_eq_nil_of_le (by omega)]
      simp only [List.find?_nil, ite_self]
    · rw [List.drop_eq_nil_of_le (by omega), show cr_rem s left [] = [] from by cases left <;> rfl, List.append_nil]
      exact h.stop (by omega)
  | succ m ih =>
    intro q k left fst dn z h hq hk hle
    obtain ⟨k, rfl⟩ : ∃ e, k = e + 1 := ⟨k - 1, by omega⟩
    have hl := h.2.1
    have hql : q < cs.length := by omega
    have hok := h.2.2.1 _ (cr_mem hql)
    have hc := hok.2
    have hdn := h.2.2.2.2.1
    have hrow := h.2.2.2.2.2.2 q (Nat.le_refl q) hql
    have hlen : (dn ++ [cs.getD q 0]).length = dn.length + 1 := by rw [List.length_append]; rfl
    have stay : ∀ (left' : Nat), left' ≤ many → ∃ z', b_X9_take_74 n (b_X9_take_12 n k) 0 (nI p) (nI s) (nI many) (nI dn.length) (nI left') fst (nI q) (nI (cs.getD q 0)) z = some ((if left' = many ∧ 0 < many then (match (cs.drop (q + 1)).find? (cr_has s) with | some c => nI c | none => fst) else fst), z') ∧ mC z' p (dn ++ (cs.getD q 0 :: cr_rem s left' (cs.drop (q + 1)))) ∧ fM p z z' := by
      intro left' hle'
      unfold b_X9_take_74 b_X9_take_91
      rw [li12, pk_mul, nI_add, if_pos (am_inB_nI (by omega) (by omega)), nI_c (by omega), li1, nI_add, nI_add]
      obtain ⟨z', g1, g2, g3⟩ := ih (q + 1) k left' fst (dn ++ [cs.getD q 0]) (sA z 54 0 (12 * p + dn.length) (nI (cs.getD q 0))) (h.keep hql) (by omega) (by omega) hle'
      rw [hlen] at g1
      refine ⟨z', g1, ?_, (fM.put (by omega)).tr g3⟩
      rw [List.append_assoc] at g2
      exact g2
    rw [b_X9_take_12, if_pos (am_inB_nI (by omega) (by omega)), nI_c (by omega), h.1, if_neg (nI_ge hql (by omega)), li12, pk_mul, nI_add, if_pos (am_inB_nI (by omega) (by omega)), nI_c (by omega), hrow, cr_drop hql, List.find?_cons]
    cases left with
    | zero =>
      rw [if_pos (by decide), cr_rem_0]
      obtain ⟨z', g1, g2, g3⟩ := stay 0 (by omega)
      rw [cr_rem_0] at g2
      refine ⟨z', ?_, g2, g3⟩
      rw [g1, if_neg (by omega), if_neg (by omega)]
    | succ left =>
      rw [if_neg (by rw [li0]; exact nI_ge (by omega) (by omega)), li4, nI_rem (by omega) (by omega) (by omega)]
      unfold cr_rem
      cases hb : cr_has s (cs.getD q 0) with
      | true =>
        rw [M_has_t z hs hok hb, ob, if_neg n10, if_pos rfl]
        unfold b_X9_take_66 b_X9_take_91
        by_cases e : left + 1 = many
        · rw [if_neg (by rw [e]; exact fun w => w rfl), pk_m1, li1, nI_add]
          obtain ⟨z', g1, g2, g3⟩ := ih (q + 1) k left (nI (cs.getD q 0)) dn z h.skip (by omega) (by omega) (by omega)
          refine ⟨z', ?_, g2, g3⟩
          rw [g1, if_neg (by omega), if_pos ⟨e, by omega⟩]
        · rw [if_pos (by rw [nI_eqi (by omega) (by omega)]; exact e), pk_m1, li1, nI_add]
          obtain ⟨z', g1, g2, g3⟩ := ih (q + 1) k left fst dn z h.skip (by omega) (by omega) (by omega)
          refine ⟨z', ?_, g2, g3⟩
          rw [g1, if_neg (by omega), if_neg (fun w => e w.1)]
      | false =>
        rw [M_has_f z hs hok hb, ob, if_pos rfl, if_neg (show ¬ (false = true) by decide)]
        exact stay (left + 1) hle
theorem M_take {n p s many : Nat} {cs : List Nat} {z : am_X} (hn : 100 ≤ n) (hp5 : p < 5) (hs : s < 8) (hm : many < 1000) (h0 : 0 < many) (h : mC z p cs) : ∃ z', f_X9_take n 0 (nI p) (nI s) (nI many) z = some ((match cs.find? (cr_has s) with | some c => nI c | none => -1), z') ∧ mC z' p (cr_rem s many cs) ∧ fM p z z' := by
  unfold f_X9_take
  have hl := h.2.1
  obtain ⟨z', g1, g2, g3⟩ := M_take_lp (n := n) hp5 hs hm cs.length 0 n many (-1) [] z (mM.start h) (by omega) (by omega) (Nat.le_refl _)
  rw [if_pos ⟨rfl, h0⟩, List.drop_zero] at g1
  exact ⟨z', g1, by simpa using g2, g3⟩
def mG (z : am_X) (p : Nat) (cs : List Nat) (q : Nat) : Prop := xA z 53 0 p = nI cs.length ∧ cs.length < 12 ∧ (∀ c ∈ cs, cr_ok c) ∧ (∀ k, k < q → xA z 54 0 (12 * p + k) = nI (cs.getD k 0)) ∧ ∀ k, q ≤ k → k < cs.length → xA z 54 0 (12 * p + (k + 1)) = nI (cs.getD k 0)
theorem mG.stop {z : am_X} {p c q : Nat} {cs : List Nat} (h : mG z p cs q) (hq : q ≤ cs.length) (hc : cr_ok c) : mC (sA (sA z 54 0 (12 * p + q) (nI c)) 53 0 p (nI (cs.length + 1))) p (cr_at c q cs) := by
  refine ⟨by rw [xA_sA, if_pos ⟨rfl, rfl, rfl⟩, cr_at_len], by rw [cr_at_len]; exact h.2.1, ?_, ?_⟩
  · intro a ha
    rcases cr_at_mem ha with rfl | h2
    · exact hc
    · exact h.2.2.1 a h2
  · intro k hk
    rw [cr_at_len] at hk
    rw [xA_sA, if_neg (fun e => by cases e.1), xA_sA, cr_at_getD hq]
    by_cases e : k = q
    · rw [if_pos ⟨rfl, rfl, by omega⟩, if_neg (by omega), if_pos e]
    · rw [if_neg (fun w => by omega)]
      by_cases e2 : k < q
      · rw [if_pos e2]
        exact h.2.2.2.1 k e2
      · rw [if_neg e2, if_neg e, show k = (k - 1) + 1 from by omega]
        exact h.2.2.2.2 (k - 1) (by omega) (by omega)
theorem M_give_lp {n p c : Nat} {cs : List Nat} (hp5 : p < 5) (hc : cr_ok c) : ∀ (q k : Nat) (z : am_X), mG z p cs q → q ≤ cs.length → q < k → ∃ z', b_X9_give_20 n k 0 (nI p) (nI c) (nI q) z = some (1, z') ∧ mC z' p (cr_at c (cr_pos c cs q) cs) ∧ fM p z z' := by
  have hc2 := hc.2
  intro q
  induction q with
  | zero =>
    intro k z h hq hk
    obtain ⟨k, rfl⟩ : ∃ e, k = e + 1 := ⟨k - 1, by omega⟩
    have hl := h.2.1
    refine ⟨sA (sA z 54 0 (12 * p + 0) (nI c)) 53 0 p (nI (cs.length + 1)), ?_, h.stop hq hc, (fM.put (by omega)).tr fM.set⟩
    rw [b_X9_give_20, if_pos (by decide)]
    unfold b_X9_give_71
    rw [li12, pk_mul, nI_add, if_pos (am_inB_nI (by omega) (by omega)), if_pos (am_inB_nI (by omega) (by omega)), if_pos (am_inB_nI (by omega) (by omega)), nI_c (by omega), nI_c (by omega), h.1, li1, nI_add]
  | succ q ih =>
    intro k z h hq hk
    obtain ⟨k, rfl⟩ : ∃ e, k = e + 1 := ⟨k - 1, by omega⟩
    have hl := h.2.1
    have hrow := h.2.2.2.1 q (by omega)
    have hok := h.2.2.1 _ (cr_mem (show q < cs.length by omega))
    have hok2 := hok.2
    rw [b_X9_give_20, if_neg (by rw [li0]; exact nI_ge (by omega) (by omega)), li12, pk_mul, nI_add, li1, nI_subi (by omega), if_pos (am_inB_nI (by omega) (by omega)), nI_c (by omega), nI_c (by omega), show 12 * p + (q + 1) - 1 = 12 * p + q from by omega, hrow]
    unfold cr_pos
    by_cases hlt : c < cs.getD q 0
    · rw [if_neg (nI_ge hlt (by omega)), if_pos (am_inB_nI (by omega) (by omega)), if_pos (am_inB_nI (by omega) (by omega)), if_pos hlt, show nI (q + 1) + -nI 1 = nI q from pk_m1 q]
      obtain ⟨z', g1, g2, g3⟩ := ih k (sA z 54 0 (12 * p + (q + 1)) (nI (cs.getD q 0))) ⟨h.1, h.2.1, h.2.2.1, fun r hr => by rw [xA_sA, if_neg (by omega)]; exact h.2.2.2.1 r (by omega), fun r h1 h2 => by
        rw [xA_sA]
        by_cases e : r = q
        · rw [if_pos ⟨rfl, rfl, by omega⟩, e]
        · rw [if_neg (by omega)]
          exact h.2.2.2.2 r (by omega) h2⟩ (by omega) (by omega)
      exact ⟨z', g1, g2, (fM.put (by omega)).tr g3⟩
    · rw [if_pos (nI_le (by omega) (by omega)), if_neg hlt]
      refine ⟨sA (sA z 54 0 (12 * p + (q + 1)) (nI c)) 53 0 p (nI (cs.length + 1)), ?_, h.stop hq hc, (fM.put (by omega)).tr fM.set⟩
      unfold b_X9_give_71
      rw [li12, pk_mul, nI_add, if_pos (am_inB_nI (by omega) (by omega)), if_pos (am_inB_nI (by omega) (by omega)), if_pos (am_inB_nI (by omega) (by omega)), nI_c (by omega), nI_c (by omega), h.1, li1, nI_add]
theorem M_give {n p c : Nat} {cs : List Nat} {z : am_X} (hn : 100 ≤ n) (hp5 : p < 5) (hc : cr_ok c) (h : mC z p cs) : ∃ z', f_X9_give n 0 (nI p) (nI c) z = some ((if cs.length < 12 then 1 else 0), z') ∧ mC z' p (cr_giv c cs) ∧ fM p z z' := by
  have hl := h.2.1
  unfold f_X9_give cr_giv
  rw [if_pos (am_inB_nI (by omega) (by omega)), nI_c (by omega), h.1, li12]
  by_cases e : cs.length < 12
  · rw [if_pos (by rw [nI_eqi (by omega) (by omega)]; omega), if_pos (am_inB_nI (by omega) (by omega)), if_pos e, if_pos e]
    exact M_give_lp hp5 hc cs.length n z ⟨h.1, e, h.2.2.1, h.2.2.2, fun k h1 h2 => by omega⟩ (Nat.le_refl _) (by omega)
  · rw [if_neg (by rw [nI_eqi (by omega) (by omega)]; omega), if_neg e, if_neg e]
    exact ⟨z, rfl, h, fM.rf⟩
