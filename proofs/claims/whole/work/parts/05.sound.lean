/-! WHAT THE ABSTRACT MACHINE'S STATES ARE ON THE MACHINE -/
def am_cv (ad : Nat → Nat → Nat) (v : am_V) : Value := match v with
  | .inl x => .int x
  | .inr (.inl x) => .long x
  | .inr (.inr q) => .ref (ad q.1 q.2)
def am_cp (ad : Nat → Nat → Nat) (q : Nat × am_V) : Nat × Value := (q.1, am_cv ad q.2)
theorem am_cat (ad : Nat → Nat → Nat) (v : am_V) : ((am_cv ad v).category == 2) = am_isL v := by
  rcases v with x | x | q <;> rfl
theorem am_cat' (ad : Nat → Nat → Nat) (v : am_V) : (am_cv ad v).category = (bif am_isL v then 2 else 1) := by
  rcases v with x | x | q <;> rfl
theorem am_cat1 (ad : Nat → Nat → Nat) {v : am_V} (h : am_isL v = false) : (am_cv ad v).category = 1 := by
  rw [am_cat', h]; rfl
theorem am_get_mem {lv : am_LV} {i : Nat} {v : am_V} (h : am_get lv i = some v) : (i, v) ∈ lv := by
  induction lv with
  | nil => cases h
  | cons q r ih =>
    unfold am_get at h
    cases hq : Nat.beq q.1 i with
    | true =>
      rw [hq] at h
      have e1 : q.1 = i := Nat.eq_of_beq_eq_true hq
      have e2 : q.2 = v := Option.some.inj h
      subst e1; subst e2
      exact List.mem_cons_self
    | false =>
      rw [hq] at h
      exact List.mem_cons_of_mem _ (ih h)
theorem am_get_at {ad : Nat → Nat → Nat} {ls : Array Slot} {nL : Nat} {lv : am_LV} {i : Nat} {v : am_V} (h : am_get lv i = some v) (hl : lv_has ls nL (lv.map (am_cp ad))) : ls[i]? = some (.val (am_cv ad v)) :=
  hl.2.2 (i, am_cv ad v) (List.mem_map.mpr ⟨(i, v), am_get_mem h, rfl⟩)
theorem am_st1_map (ad : Nat → Nat → Nat) (lv : am_LV) (i : Nat) (v : am_V) : (am_st1 lv i v).map (am_cp ad) = (i, am_cv ad v) :: (lv.map (am_cp ad)).filter (fun q => !(q.1 == i) && !(q.1 + 1 == i && q.2.category == 2)) := by
  unfold am_st1
  rw [List.map_cons, List.filter_map]
  refine congrArg (_ :: ·) (congrArg (List.map _) (List.filter_congr fun q _ => ?_))
  show _ = (!(q.1 == i) && !(q.1 + 1 == i && (am_cv ad q.2).category == 2))
  rw [am_cat]
theorem am_st2_map (ad : Nat → Nat → Nat) (lv : am_LV) (i : Nat) (v : am_V) : (am_st2 lv i v).map (am_cp ad) = (i, am_cv ad v) :: (lv.map (am_cp ad)).filter (fun q => !(q.1 == i) && (!(q.1 == i + 1) && !(q.1 + 1 == i && q.2.category == 2))) := by
  unfold am_st2
  rw [List.map_cons, List.filter_map]
  refine congrArg (_ :: ·) (congrArg (List.map _) (List.filter_congr fun q _ => ?_))
  show _ = (!(q.1 == i) && (!(q.1 == i + 1) && !(q.1 + 1 == i && (am_cv ad q.2).category == 2)))
  rw [am_cat]
theorem am_args_map (ad : Nat → Nat → Nat) : ∀ (i : Nat) (as : List am_V), (am_args i as).map (am_cp ad) = lv_args i (as.map (am_cv ad)) := by
  intro i as
  induction as generalizing i with
  | nil => rfl
  | cons v vs ih =>
    show am_cp ad (i, v) :: (am_args (bif am_isL v then i + 2 else i + 1) vs).map (am_cp ad) = (i, am_cv ad v) :: lv_args (if (am_cv ad v).category = 2 then i + 2 else i + 1) (vs.map (am_cv ad))
    rw [ih]
    cases hv : am_isL v with
    | true => rw [if_pos (by rw [am_cat', hv]; rfl)]; rfl
    | false => rw [if_neg (by rw [am_cat', hv]; decide)]; rfl
theorem am_sel_map (ad : Nat → Nat → Nat) (ks : List Nat) (lv : am_LV) : (am_sel ks lv).map (am_cp ad) = lv_pick (lv.map (am_cp ad)) ks := by
  unfold am_sel lv_pick
  rw [List.map_filterMap]
  exact congrArg (fun f => List.filterMap f ks) (funext fun k => by rw [List.getElem?_map])
theorem am_sel_mem {ks : List Nat} {lv : am_LV} {q : Nat × am_V} (h : q ∈ am_sel ks lv) : q ∈ lv := by
  obtain ⟨k, -, hk⟩ := List.mem_filterMap.mp h
  exact List.mem_of_getElem? hk
theorem am_cs_sl (ad : Nat → Nat → Nat) (as : List am_V) : (lg_sl (as.map (am_cv ad))).length = am_cs as := by
  induction as with
  | nil => rfl
  | cons v vs ih =>
    unfold am_cs
    rw [← ih]
    unfold lg_sl
    rw [List.map_cons, List.flatMap_cons, List.length_append]
    congr 1
    cases hv : am_isL v with
    | true => rw [if_pos (by rw [am_cat', hv]; rfl)]; rfl
    | false => rw [if_neg (by rw [am_cat', hv]; decide)]; rfl
theorem am_cs_cat (ad : Nat → Nat → Nat) (as : List am_V) : ((as.map (am_cv ad)).map fun v => v.category).sum = am_cs as := by
  induction as with
  | nil => rfl
  | cons v vs ih =>
    unfold am_cs
    rw [List.map_cons, List.map_cons, List.sum_cons, ih, am_cat']
theorem am_inB_iff {i : Int32} {n : Nat} (h : am_inB i n = true) : vp_in i n := by
  unfold am_inB at h
  rw [Bool.and_eq_true, decide_eq_true_eq, decide_eq_true_eq] at h
  exact vp_in_iff.mpr h
theorem am_bz_nar {v : Int32} (h : am_bz v = true) : narrow .boolean (.int v) = .int v := by
  unfold am_bz at h
  rw [Bool.or_eq_true, decide_eq_true_eq, decide_eq_true_eq] at h
  rcases h with rfl | rfl <;> rfl
theorem am_bz_fit {v : Int32} (h : am_bz v = true) : fits .boolean (.int v) = true := by
  unfold am_bz at h
  rw [Bool.or_eq_true, decide_eq_true_eq, decide_eq_true_eq] at h
  rcases h with rfl | rfl <;> rfl
/-! the world -/
def am_fv (ad : Nat → Nat → Nat) (M : am_W) (t i k : Nat) : Value := match am_fk t k with
  | 2 => .ref (ad (am_ref t k i).1 (am_ref t k i).2)
  | 3 => .ref (ad 20 (xK M.1 i))
  | 4 => .long (xL M.2 k)
  | _ => .int (xF (am_s t M) t k i)
def am_cell (ad : Nat → Nat → Nat) (ca : Nat → ClassId) (M : am_W) (t i : Nat) : va_E := match am_ak t with
  | 0 => .inr (am_ci t, (List.range (am_nf t)).map (am_fv ad M t i))
  | 1 => .inl (ca 0, am_len t, .inl (fun q => xA (am_s t M) t i q))
  | 2 => .inl (ca 1, am_len t, .inl (fun q => xA (am_s t M) t i q))
  | _ => .inl (ca 2, am_len t, .inr (.inr (.inr (.inr (fun q => some (ad 4 (am_el t i q)))))))
def am_enc (ad : Nat → Nat → Nat) (ca : Nat → ClassId) (M : am_W) : va_W := am_keys.map (fun q => (ad q.1 q.2, am_cell ad ca M q.1 q.2))
def am_Wd (ad : Nat → Nat → Nat) (ca : Nat → ClassId) (D : va_G) (A : Nat → Prop) (M : am_W) (H : Heap) : Prop := va_P D vwCl (am_enc ad ca M) H ∧ va_D A (am_enc ad ca M)
theorem am_place {t i : Nat} (h : (t, i) ∈ am_keys) : ∃ q0 : Nat, am_keys[q0]? = some (t, i) := List.mem_iff_getElem?.mp h
theorem am_enc_at {ad : Nat → Nat → Nat} {ca : Nat → ClassId} {M : am_W} {t i q0 : Nat} (h : am_keys[q0]? = some (t, i)) : (am_enc ad ca M)[q0]? = some (ad t i, am_cell ad ca M t i) := by
  unfold am_enc
  rw [List.getElem?_map, h]
  rfl
theorem am_keys_nd : ∀ i, i < am_keys.length → ∀ j, j < am_keys.length → am_keys[i]? = am_keys[j]? → i = j := by decide +kernel
/-- one cell changes: the list is set at its place -/
theorem am_enc_set {ad : Nat → Nat → Nat} {ca : Nat → ClassId} {M M' : am_W} {t i q0 : Nat} {x : va_E} (h : am_keys[q0]? = some (t, i)) (hx : am_cell ad ca M' t i = x) (ho : ∀ t' i', (t', i') ≠ (t, i) → (t', i') ∈ am_keys → am_cell ad ca M' t' i' = am_cell ad ca M t' i') : (am_enc ad ca M).set q0 (ad t i, x) = am_enc ad ca M' := by
  apply List.ext_getElem?
  intro k
  unfold am_enc
  rw [List.getElem?_map]
  by_cases hk : k = q0
  · subst hk
    rw [List.getElem?_set_self (by rw [List.length_map]; exact (List.getElem?_eq_some_iff.mp h).1), h]
    show _ = some (ad t i, am_cell ad ca M' t i)
    rw [hx]
  · rw [List.getElem?_set_ne (Ne.symm hk), List.getElem?_map]
    cases hq : am_keys[k]? with
    | none => rfl
    | some q =>
      have hne : (q.1, q.2) ≠ (t, i) := by
        intro e
        exact hk (am_keys_nd k (List.getElem?_eq_some_iff.mp hq).1 q0 (List.getElem?_eq_some_iff.mp h).1 (by rw [hq, h]; exact congrArg some e))
      show some (ad q.1 q.2, am_cell ad ca M q.1 q.2) = some (ad q.1 q.2, am_cell ad ca M' q.1 q.2)
      rw [ho q.1 q.2 hne (List.mem_of_getElem? hq)]
theorem am_range_set {α : Type} (f g : Nat → α) (n k : Nat) (v : α) (hk : k < n) (hv : g k = v) (ho : ∀ j, j ≠ k → g j = f j) : ((List.range n).map f).set k v = (List.range n).map g := by
  apply List.ext_getElem?
  intro j
  by_cases hj : j = k
  · subst hj
    rw [List.getElem?_set_self (by rw [List.length_map, List.length_range]; exact hk), List.getElem?_map, List.getElem?_range hk]
    exact congrArg some hv.symm
  · rw [List.getElem?_set_ne (Ne.symm hj), List.getElem?_map, List.getElem?_map]
    by_cases hn : j < n
    · rw [List.getElem?_range hn]
      exact congrArg some (ho j hj).symm
    · rw [List.getElem?_eq_none (by rw [List.length_range]; omega)]
      rfl
theorem am_u3_self {α : Type} (f : Nat → Nat → Nat → α) (a b c : Nat) (v : α) : am_u3 f a b c v a b c = v := by
  unfold am_u3
  rw [Nat.beq_refl, Nat.beq_refl, Nat.beq_refl]
  rfl
theorem am_u3_ne {α : Type} (f : Nat → Nat → Nat → α) {a b c a' b' c' : Nat} (v : α) (h : ¬ (a' = a ∧ b' = b ∧ c' = c)) : am_u3 f a b c v a' b' c' = f a' b' c' := by
  unfold am_u3
  cases hb : (Nat.beq a' a && (Nat.beq b' b && Nat.beq c' c)) with
  | false => rfl
  | true =>
    rw [Bool.and_eq_true, Bool.and_eq_true] at hb
    exact absurd ⟨Nat.eq_of_beq_eq_true hb.1, Nat.eq_of_beq_eq_true hb.2.1, Nat.eq_of_beq_eq_true hb.2.2⟩ h
theorem am_u1_self {α : Type} (f : Nat → α) (a : Nat) (v : α) : am_u1 f a v a = v := by
  unfold am_u1
  rw [Nat.beq_refl]
  rfl
theorem am_u1_ne {α : Type} (f : Nat → α) {a a' : Nat} (v : α) (h : ¬ a' = a) : am_u1 f a v a' = f a' := by
  unfold am_u1
  cases hb : Nat.beq a' a with
  | false => rfl
  | true => exact absurd (Nat.eq_of_beq_eq_true hb) h
theorem am_s_p (t : Nat) (M : am_W) (x : am_X) : am_s t (am_p t M x) = x := by
  unfold am_s am_p
  cases Nat.ble 32 t <;> rfl
/-- another kind's memory, when t's is put: the same, or the other one -/
theorem am_s_p' (t t' : Nat) (M : am_W) (x : am_X) : am_s t' (am_p t M x) = x ∧ am_s t' M = am_s t M ∨ am_s t' (am_p t M x) = am_s t' M := by
  unfold am_s am_p
  cases Nat.ble 32 t <;> cases Nat.ble 32 t' <;> first | exact Or.inl ⟨rfl, rfl⟩ | exact Or.inr rfl
theorem am_xF_put {t k i : Nat} {M : am_W} {v : Int32} (t' k' i' : Nat) : xF (am_s t' (am_p t M (sF (am_s t M) t k i v))) t' k' i' = if t' = t ∧ k' = k ∧ i' = i then v else xF (am_s t' M) t' k' i' := by
  split
  · rename_i h
    obtain ⟨rfl, rfl, rfl⟩ := h
    rw [am_s_p]
    exact am_u3_self _ _ _ _ _
  · rename_i h
    rcases am_s_p' t t' M (sF (am_s t M) t k i v) with ⟨e1, e2⟩ | e
    · rw [e1, e2]
      exact am_u3_ne _ _ h
    · rw [e]
theorem am_xA_putF {t k i : Nat} {M : am_W} {v : Int32} (t' i' q' : Nat) : xA (am_s t' (am_p t M (sF (am_s t M) t k i v))) t' i' q' = xA (am_s t' M) t' i' q' := by
  rcases am_s_p' t t' M (sF (am_s t M) t k i v) with ⟨e1, e2⟩ | e
  · rw [e1, e2]; rfl
  · rw [e]
theorem am_xA_put {t i q : Nat} {M : am_W} {v : Int32} (t' i' q' : Nat) : xA (am_s t' (am_p t M (sA (am_s t M) t i q v))) t' i' q' = if t' = t ∧ i' = i ∧ q' = q then v else xA (am_s t' M) t' i' q' := by
  split
  · rename_i h
    obtain ⟨rfl, rfl, rfl⟩ := h
    rw [am_s_p]
    exact am_u3_self _ _ _ _ _
  · rename_i h
    rcases am_s_p' t t' M (sA (am_s t M) t i q v) with ⟨e1, e2⟩ | e
    · rw [e1, e2]
      exact am_u3_ne _ _ h
    · rw [e]
theorem am_xF_putA {t i q : Nat} {M : am_W} {v : Int32} (t' k' i' : Nat) : xF (am_s t' (am_p t M (sA (am_s t M) t i q v))) t' k' i' = xF (am_s t' M) t' k' i' := by
  rcases am_s_p' t t' M (sA (am_s t M) t i q v) with ⟨e1, e2⟩ | e
  · rw [e1, e2]; rfl
  · rw [e]
theorem am_xK_putF {t k i : Nat} {M : am_W} {v : Int32} : (am_p t M (sF (am_s t M) t k i v)).1.2.2 = M.1.2.2 ∧ (am_p t M (sF (am_s t M) t k i v)).2.2.2 = M.2.2.2 := by
  unfold am_p am_s
  cases Nat.ble 32 t <;> exact ⟨rfl, rfl⟩
theorem am_xK_putA {t i q : Nat} {M : am_W} {v : Int32} : (am_p t M (sA (am_s t M) t i q v)).1.2.2 = M.1.2.2 ∧ (am_p t M (sA (am_s t M) t i q v)).2.2.2 = M.2.2.2 := by
  unfold am_p am_s
  cases Nat.ble 32 t <;> exact ⟨rfl, rfl⟩
theorem am_fv_eq {ad : Nat → Nat → Nat} {M M' : am_W} {t i k : Nat} (h1 : xK M'.1 i = xK M.1 i) (h2 : xL M'.2 k = xL M.2 k) (h3 : xF (am_s t M') t k i = xF (am_s t M) t k i) : am_fv ad M' t i k = am_fv ad M t i k := by
  unfold am_fv
  rw [h1, h2, h3]
theorem am_cell_obj {ad : Nat → Nat → Nat} {ca : Nat → ClassId} {M : am_W} {t i : Nat} (h : am_ak t = 0) : am_cell ad ca M t i = .inr (am_ci t, (List.range (am_nf t)).map (am_fv ad M t i)) := by
  unfold am_cell
  rw [h]
  rfl
theorem am_cell_int {ad : Nat → Nat → Nat} {ca : Nat → ClassId} {M : am_W} {t i : Nat} (h : am_ak t = 1) : am_cell ad ca M t i = .inl (ca 0, am_len t, .inl (fun q => xA (am_s t M) t i q)) := by
  unfold am_cell
  rw [h]
  rfl
theorem am_cell_byte {ad : Nat → Nat → Nat} {ca : Nat → ClassId} {M : am_W} {t i : Nat} (h : am_ak t = 2) : am_cell ad ca M t i = .inl (ca 1, am_len t, .inl (fun q => xA (am_s t M) t i q)) := by
  unfold am_cell
  rw [h]
  rfl
theorem am_cell_per {ad : Nat → Nat → Nat} {ca : Nat → ClassId} {M : am_W} {t i : Nat} (h : am_ak t = 3) : am_cell ad ca M t i = .inl (ca 2, am_len t, .inr (.inr (.inr (.inr (fun q => some (ad 4 (am_el t i q))))))) := by
  unfold am_cell
  rw [h]
  rfl
theorem am_cell_eq {ad : Nat → Nat → Nat} {ca : Nat → ClassId} {M M' : am_W} {t i : Nat} (h1 : am_ak t = 0 → ∀ k, k < am_nf t → am_fv ad M' t i k = am_fv ad M t i k) (h2 : ∀ q, xA (am_s t M') t i q = xA (am_s t M) t i q) : am_cell ad ca M' t i = am_cell ad ca M t i := by
  unfold am_cell
  split
  · rename_i h
    refine congrArg Sum.inr (congrArg (Prod.mk _) (List.map_congr_left fun k hk => h1 h k (List.mem_range.mp hk)))
  · rw [show (fun q => xA (am_s t M') t i q) = (fun q => xA (am_s t M) t i q) from funext h2]
  · rw [show (fun q => xA (am_s t M') t i q) = (fun q => xA (am_s t M) t i q) from funext h2]
  · rfl
