/-! gain: what is still to be had at most -/
def kg (k : Nat) : Nat := if k = 2 then 2 else 1
theorem kg_tab : ∀ k, k < 5 → (List.getD [1, 1, 2, 1, 1] k 0 : Int32) = nI (kg k) := by decide
theorem kg_le (k : Nat) : 1 ≤ kg k ∧ kg k ≤ 2 := by unfold kg; split <;> omega
def mxF (F : Nat → Nat) : Nat → Nat → Nat → Nat
  | 0, _, a => a
  | r + 1, d, a => mxF F r (d + 1) (if a < F d then F d else a)
theorem mxF_a (F : Nat → Nat) : ∀ (r d a : Nat), a ≤ mxF F r d a := by
  intro r
  induction r with
  | zero => intro d a; exact Nat.le_refl a
  | succ r ih =>
    intro d a
    show a ≤ mxF F r (d + 1) (if a < F d then F d else a)
    have := ih (d + 1) (if a < F d then F d else a)
    split at this <;> (rename_i h; first | rw [if_pos h] | rw [if_neg h]) <;> omega
theorem mxF_F (F : Nat → Nat) : ∀ (r d a e : Nat), d ≤ e → e < d + r → F e ≤ mxF F r d a := by
  intro r
  induction r with
  | zero => intro d a e h1 h2; omega
  | succ r ih =>
    intro d a e h1 h2
    show F e ≤ mxF F r (d + 1) (if a < F d then F d else a)
    by_cases ed : e = d
    · have := mxF_a F r (d + 1) (if a < F d then F d else a)
      rw [ed]
      by_cases h : a < F d
      · rw [if_pos h] at this ⊢; exact this
      · rw [if_neg h] at this ⊢; omega
    · exact ih (d + 1) _ e (by omega) (by omega)
theorem mxF_le (F : Nat → Nat) (B : Nat) : ∀ (r d a : Nat), a ≤ B → (∀ e, d ≤ e → e < d + r → F e ≤ B) → mxF F r d a ≤ B := by
  intro r
  induction r with
  | zero => intro d a h _; exact h
  | succ r ih =>
    intro d a h hF
    refine ih (d + 1) _ ?_ (fun e h1 h2 => hF e (by omega) (by omega))
    by_cases h' : a < F d
    · rw [if_pos h']; exact hF d (by omega) (by omega)
    · rw [if_neg h']; exact h
def fW (g c ft : Nat → Nat) (W : Nat) (d : Nat) : Nat := if c d ≤ ft d then W * g d / c d else 0
def fK (g c ft : Nat → Nat) (f : Nat) (d : Nat) : Nat := if c d ≤ ft d then g d * f else 0
def gV (g c ft : Nat → Nat) (W f : Nat) : Nat := Nat.min (mxF (fW g c ft W) 4 0 0) (mxF (fK g c ft f) 4 0 0)
theorem min_le_min {a b c d : Nat} (h1 : a ≤ c) (h2 : b ≤ d) : Nat.min a b ≤ Nat.min c d := by
  simp only [Nat.min_def]
  split <;> split <;> omega
theorem V_mono {g c ft ft' : Nat → Nat} {W W' f f' : Nat} (h1 : ∀ d, d < 4 → ft' d ≤ ft d) (h2 : W' ≤ W) (h3 : f' ≤ f) : gV g c ft' W' f' ≤ gV g c ft W f := by
  refine min_le_min (mxF_le _ _ 4 0 0 (Nat.zero_le _) (fun e _ he => Nat.le_trans ?_ (mxF_F (fW g c ft W) 4 0 0 e (Nat.zero_le _) he))) (mxF_le _ _ 4 0 0 (Nat.zero_le _) (fun e _ he => Nat.le_trans ?_ (mxF_F (fK g c ft f) 4 0 0 e (Nat.zero_le _) he)))
  · unfold fW
    have := h1 e (by omega)
    by_cases h : c e ≤ ft' e
    · rw [if_pos h, if_pos (by omega)]
      exact Nat.div_le_div_right (Nat.mul_le_mul_right _ h2)
    · rw [if_neg h]; exact Nat.zero_le _
  · unfold fK
    have := h1 e (by omega)
    by_cases h : c e ≤ ft' e
    · rw [if_pos h, if_pos (by omega)]
      exact Nat.mul_le_mul_left _ h3
    · rw [if_neg h]; exact Nat.zero_le _
theorem div_step {W W' gd ge cd ce M : Nat} (hcd : 0 < cd) (hce : 0 < ce) (hW : W' + cd ≤ W) (h1 : W * gd / cd ≤ M) (h2 : W * ge / ce ≤ M) : gd + W' * ge / ce ≤ M := by
  by_cases h : gd * ce ≤ ge * cd
  · refine Nat.le_trans ?_ h2
    have e1 : W' * ge + gd * ce ≤ W * ge := by
      calc W' * ge + gd * ce ≤ W' * ge + ge * cd := by omega
        _ = (W' + cd) * ge := by rw [Nat.add_mul, Nat.mul_comm ge cd]
        _ ≤ W * ge := Nat.mul_le_mul_right _ hW
    have e2 := Nat.div_le_div_right (c := ce) e1
    rw [Nat.add_mul_div_right _ _ hce] at e2
    omega
  · refine Nat.le_trans ?_ h1
    have e1 : W' * gd + gd * cd ≤ W * gd := by
      calc W' * gd + gd * cd = (W' + cd) * gd := by rw [Nat.add_mul, Nat.mul_comm gd cd]
        _ ≤ W * gd := Nat.mul_le_mul_right _ hW
    have e2 := Nat.div_le_div_right (c := cd) e1
    rw [Nat.add_mul_div_right _ _ hcd] at e2
    have e3 : W' * ge / ce ≤ W' * gd / cd := by
      rw [Nat.le_div_iff_mul_le hcd]
      have q := Nat.div_mul_le_self (W' * ge) ce
      refine Nat.le_of_mul_le_mul_right ?_ hce
      calc W' * ge / ce * cd * ce = (W' * ge / ce * ce) * cd := by rw [Nat.mul_assoc, Nat.mul_comm cd ce, ← Nat.mul_assoc]
        _ ≤ (W' * ge) * cd := Nat.mul_le_mul_right _ q
        _ = W' * (ge * cd) := Nat.mul_assoc ..
        _ ≤ W' * (gd * ce) := Nat.mul_le_mul_left _ (by omega)
        _ = W' * gd * ce := (Nat.mul_assoc ..).symm
    omega
theorem V_deed {g c ft ft' : Nat → Nat} {W W' f f' d : Nat} (hc : ∀ e, e < 4 → 0 < c e) (hd : d < 4) (hfit : c d ≤ ft d) (h1 : ∀ e, e < 4 → ft' e ≤ ft e) (h2 : W' + c d ≤ W) (h3 : f' + 1 ≤ f) : g d + gV g c ft' W' f' ≤ gV g c ft W f := by
  have dW : W * g d / c d ≤ mxF (fW g c ft W) 4 0 0 := by
    have := mxF_F (fW g c ft W) 4 0 0 d (Nat.zero_le _) (by omega)
    unfold fW at this
    rw [if_pos hfit] at this
    exact this
  have dK : g d * f ≤ mxF (fK g c ft f) 4 0 0 := by
    have := mxF_F (fK g c ft f) 4 0 0 d (Nat.zero_le _) (by omega)
    unfold fK at this
    rw [if_pos hfit] at this
    exact this
  have g1 : g d ≤ W * g d / c d := by
    rw [Nat.le_div_iff_mul_le (hc d hd), Nat.mul_comm]
    exact Nat.mul_le_mul_right _ (by omega)
  have g2 : g d ≤ g d * f := Nat.le_mul_of_pos_right _ (by omega)
  have a1 : mxF (fW g c ft' W') 4 0 0 ≤ mxF (fW g c ft W) 4 0 0 - g d := by
    refine mxF_le _ _ 4 0 0 (Nat.zero_le _) (fun e _ he => ?_)
    unfold fW
    have hft := h1 e (by omega)
    by_cases h : c e ≤ ft' e
    · rw [if_pos h]
      have eW : W * g e / c e ≤ mxF (fW g c ft W) 4 0 0 := by
        have := mxF_F (fW g c ft W) 4 0 0 e (Nat.zero_le _) he
        unfold fW at this
        rw [if_pos (show c e ≤ ft e by omega)] at this
        exact this
      have := div_step (hc d hd) (hc e (by omega)) h2 dW eW
      unfold fW at this
      omega
    · rw [if_neg h]; exact Nat.zero_le _
  have a2 : mxF (fK g c ft' f') 4 0 0 ≤ mxF (fK g c ft f) 4 0 0 - g d := by
    refine mxF_le _ _ 4 0 0 (Nat.zero_le _) (fun e _ he => ?_)
    unfold fK
    have hft := h1 e (by omega)
    by_cases h : c e ≤ ft' e
    · rw [if_pos h]
      have eK : g e * f ≤ mxF (fK g c ft f) 4 0 0 := by
        have := mxF_F (fK g c ft f) 4 0 0 e (Nat.zero_le _) he
        unfold fK at this
        rw [if_pos (show c e ≤ ft e by omega)] at this
        exact this
      have key : g d + g e * f' ≤ mxF (fK g c ft f) 4 0 0 := by
        by_cases hge : g d ≤ g e
        · refine Nat.le_trans ?_ eK
          calc g d + g e * f' ≤ g e * f' + g e := by omega
            _ = g e * (f' + 1) := (Nat.mul_succ ..).symm
            _ ≤ g e * f := Nat.mul_le_mul_left _ h3
        · refine Nat.le_trans ?_ dK
          calc g d + g e * f' ≤ g d + g d * f' := Nat.add_le_add_left (Nat.mul_le_mul_right _ (by omega)) _
            _ = g d * (f' + 1) := by rw [Nat.mul_succ, Nat.add_comm]
            _ ≤ g d * f := Nat.mul_le_mul_left _ h3
      unfold fK at key
      omega
    · rw [if_neg h]; exact Nat.zero_le _
  unfold gV
  simp only [Nat.min_def]
  split <;> split <;> omega
/-! counts of credits -/
theorem cnt_lap (lo : Int) (p : Nat → Bool) (cs : List Nat) : (cr_lap lo cs).countP p ≤ cs.countP p := by
  unfold cr_lap
  exact List.Sublist.countP_le (List.filter_sublist)
theorem cnt_giv (c : Nat) (p : Nat → Bool) (cs : List Nat) : (cr_giv c cs).countP p ≤ cs.countP p + 1 := by
  unfold cr_giv cr_ins cr_at
  split
  · rw [List.countP_append, List.countP_cons]
    have : cs.countP p = (cs.take (cr_pos c cs cs.length)).countP p + (cs.drop (cr_pos c cs cs.length)).countP p := by
      rw [← List.countP_append, List.take_append_drop]
    rw [this]
    split <;> omega
  · omega
theorem len_giv (c : Nat) (cs : List Nat) : (cr_giv c cs).length ≤ cs.length + 1 := by
  unfold cr_giv cr_ins
  split
  · rw [cr_at_len]; omega
  · omega
theorem cnt_rem (s : Nat) (p : Nat → Bool) : ∀ (m : Nat) (cs : List Nat), (cr_rem s m cs).countP p ≤ cs.countP p := by
  intro m cs
  induction cs generalizing m with
  | nil => cases m <;> exact Nat.le_refl _
  | cons c cs ih =>
    cases m with
    | zero => exact Nat.le_refl _
    | succ m =>
      unfold cr_rem
      split
      · rw [List.countP_cons]; have := ih m; omega
      · rw [List.countP_cons, List.countP_cons]; have := ih (m + 1); omega
theorem len_rem (s : Nat) : ∀ (m : Nat) (cs : List Nat), m ≤ cs.countP (cr_has s) → (cr_rem s m cs).length + m = cs.length := by
  intro m cs
  induction cs generalizing m with
  | nil => intro h; cases m with | zero => rfl | succ m => simp at h
  | cons c cs ih =>
    intro h
    cases m with
    | zero => rfl
    | succ m =>
      unfold cr_rem
      rw [List.countP_cons] at h
      by_cases hc : cr_has s c = true
      · rw [if_pos hc] at h ⊢
        have := ih m (by omega)
        rw [List.length_cons]; omega
      · rw [if_neg hc] at h ⊢
        have := ih (m + 1) (by omega)
        rw [List.length_cons, List.length_cons]; omega
/-- the bound -/
def gg (l : LW) (K d : Nat) : Nat := l.2.1 d + km K
def gc (l : LW) (K d : Nat) : Nat := kn K (l.1 d) + kg K
def gB (l : LW) (P : PS) (m : Nat) : Nat := if m ≤ pO P then 0 else gV (gg l (pK P)) (gc l (pK P)) (fun d => (pC P).countP (cr_has (l.2.2.1 d)) + kg (pK P) * (m - pO P)) ((pC P).length + kg (pK P) * (m - pO P)) (m - pO P)
theorem gc_pos (l : LW) (K d : Nat) : 0 < gc l K d := by unfold gc; have := kg_le K; omega
theorem G_step {l : LW} {P : PS} {a w m : Nat} (ha : a = 9 ∨ a < 3 ∨ (10 ≤ a ∧ a < 14)) (hm : may9 l a P = true) : pGet l a P + gB l (stp l a w P) m ≤ gB l P (m + 1) := by
  have k2 := kg_le (pK P)
  rcases ha with e | e | e
  · rw [e, pGet9, Nat.zero_add]
    unfold stp
    rw [if_pos rfl]
    unfold gB
    show (if m ≤ pO P then 0 else gV (gg l (pK P)) (gc l (pK P)) (fun d => (cr_lap _ (pC P)).countP (cr_has (l.2.2.1 d)) + kg (pK P) * (m - pO P)) ((cr_lap _ (pC P)).length + kg (pK P) * (m - pO P)) (m - pO P)) ≤ _
    by_cases h : m ≤ pO P
    · rw [if_pos h]; exact Nat.zero_le _
    · rw [if_neg h, if_neg (by omega)]
      have hk : kg (pK P) * (m - pO P) ≤ kg (pK P) * (m + 1 - pO P) := Nat.mul_le_mul_left _ (by omega)
      exact V_mono (fun d _ => Nat.add_le_add (cnt_lap _ _ _) hk) (Nat.add_le_add (cr_lap_len _ _) hk) (by omega)
  · have e9 : a ≠ 9 := by omega
    have hg : pGet l a P = 0 := by unfold pGet; rw [if_neg (by omega)]
    rw [hg, Nat.zero_add]
    unfold stp
    rw [if_neg e9]
    unfold gB
    show (if m ≤ pOwe l a P then 0 else gV (gg l (pK P)) (gc l (pK P)) (fun d => (cr_lap _ (pCrd l a w P)).countP (cr_has (l.2.2.1 d)) + kg (pK P) * (m - pOwe l a P)) ((cr_lap _ (pCrd l a w P)).length + kg (pK P) * (m - pOwe l a P)) (m - pOwe l a P)) ≤ _
    have ho : pOwe l a P = pO P - 1 := by unfold pOwe; rw [if_pos e]
    rw [ho]
    by_cases h : m ≤ pO P - 1
    · rw [if_pos h]; exact Nat.zero_le _
    · rw [if_neg h, if_neg (by omega)]
      by_cases h0 : pO P = 0
      · have hk : kg (pK P) * (m + 1 - pO P) = kg (pK P) * (m - (pO P - 1)) + kg (pK P) := by
          rw [h0, show m + 1 - 0 = (m - (0 - 1)) + 1 from by omega, Nat.mul_succ]
        have hcnt : ∀ p, (pCrd l a w P).countP p ≤ (pC P).countP p + kg (pK P) := fun p => by
          unfold pCrd kg
          rw [if_pos e, if_pos h0]
          split
          · have := cnt_giv (4 * w + a) p (cr_giv (4 * w + a) (pC P))
            have := cnt_giv (4 * w + a) p (pC P)
            omega
          · exact cnt_giv _ _ _
        have hlen : (pCrd l a w P).length ≤ (pC P).length + kg (pK P) := by
          unfold pCrd kg
          rw [if_pos e, if_pos h0]
          split
          · have := len_giv (4 * w + a) (cr_giv (4 * w + a) (pC P))
            have := len_giv (4 * w + a) (pC P)
            omega
          · exact len_giv _ _
        refine V_mono (fun d _ => ?_) ?_ (by omega)
        · show (cr_lap _ (pCrd l a w P)).countP (cr_has (l.2.2.1 d)) + kg (pK P) * (m - (pO P - 1)) ≤ (pC P).countP (cr_has (l.2.2.1 d)) + kg (pK P) * (m + 1 - pO P)
          have h1 := cnt_lap (((w + 1 : Nat) : Int) - (l.2.2.2 : Int)) (cr_has (l.2.2.1 d)) (pCrd l a w P)
          have h2 := hcnt (cr_has (l.2.2.1 d))
          rw [hk]
          omega
        · have h1 := cr_lap_len (((w + 1 : Nat) : Int) - (l.2.2.2 : Int)) (pCrd l a w P)
          rw [hk]
          omega
      · have hc : pCrd l a w P = pC P := by unfold pCrd; rw [if_pos e, if_neg h0]
        rw [hc, show m - (pO P - 1) = m + 1 - pO P from by omega]
        exact V_mono (fun d _ => Nat.add_le_add_right (cnt_lap _ _ _) _) (Nat.add_le_add_right (cr_lap_len _ _) _) (Nat.le_refl _)
  · obtain ⟨d, rfl⟩ : ∃ d, a = 10 + d := ⟨a - 10, by omega⟩
    have hd : d < 4 := by omega
    have e9 : 10 + d ≠ 9 := by omega
    have hmod : (10 + d) % 10 = d := by omega
    unfold may9 pMay at hm
    rw [decide_eq_false e9, Bool.false_or, if_neg (by omega), if_pos e, show 10 + d - 10 = d from by omega] at hm
    unfold pCv at hm
    rw [Bool.and_eq_true, decide_eq_true_eq, decide_eq_true_eq, cr_lap_0] at hm
    obtain ⟨h0, hcnt⟩ := hm
    have hg : pGet l (10 + d) P = gg l (pK P) d := by unfold pGet gg; rw [if_pos (Or.inl e), hmod]
    have ho : pOwe l (10 + d) P = 0 := by unfold pOwe; rw [if_neg (by omega), if_neg (by omega)]; exact h0
    have hc : pCrd l (10 + d) w P = cr_rem (l.2.2.1 d) (kn (pK P) (l.1 d)) (pC P) := by unfold pCrd; rw [if_neg (by omega), if_pos e, hmod]
    have hlen := len_rem _ _ _ hcnt
    have hk : kg (pK P) * (m + 1) = kg (pK P) * m + kg (pK P) := Nat.mul_succ ..
    have hfit : gc l (pK P) d ≤ (pC P).countP (cr_has (l.2.2.1 d)) + kg (pK P) * (m + 1 - pO P) := by
      rw [h0, Nat.sub_zero, hk]
      unfold gc
      omega
    rw [hg]
    unfold stp
    rw [if_neg e9]
    unfold gB
    show _ + (if m ≤ pOwe l (10 + d) P then 0 else gV (gg l (pK P)) (gc l (pK P)) (fun e => (cr_lap _ (pCrd l (10 + d) w P)).countP (cr_has (l.2.2.1 e)) + kg (pK P) * (m - pOwe l (10 + d) P)) ((cr_lap _ (pCrd l (10 + d) w P)).length + kg (pK P) * (m - pOwe l (10 + d) P)) (m - pOwe l (10 + d) P)) ≤ _
    rw [ho, hc, if_neg (show ¬ m + 1 ≤ pO P by omega)]
    by_cases h : m ≤ 0
    · rw [if_pos h]
      have := V_deed (g := gg l (pK P)) (c := gc l (pK P)) (ft := fun d => (pC P).countP (cr_has (l.2.2.1 d)) + kg (pK P) * (m + 1 - pO P)) (ft' := fun _ => 0) (W := (pC P).length + kg (pK P) * (m + 1 - pO P)) (W' := 0) (f := m + 1 - pO P) (f' := 0) (d := d) (fun e _ => gc_pos _ _ _) hd hfit (fun _ _ => Nat.zero_le _) (by
        have h3 := List.countP_le_length (p := cr_has (l.2.2.1 d)) (l := pC P)
        omega) (by omega)
      omega
    · rw [if_neg h, Nat.sub_zero]
      refine V_deed (fun e _ => gc_pos _ _ _) hd hfit (fun e _ => ?_) ?_ (by omega)
      · have h1 := cnt_lap (((w + 1 : Nat) : Int) - (l.2.2.2 : Int)) (cr_has (l.2.2.1 e)) (cr_rem (l.2.2.1 d) (kn (pK P) (l.1 d)) (pC P))
        have h2 := cnt_rem (l.2.2.1 d) (cr_has (l.2.2.1 e)) (kn (pK P) (l.1 d)) (pC P)
        show (cr_lap _ _).countP (cr_has (l.2.2.1 e)) + kg (pK P) * m ≤ (pC P).countP (cr_has (l.2.2.1 e)) + kg (pK P) * (m + 1 - pO P)
        rw [h0, Nat.sub_zero, hk]
        omega
      · have h1 := cr_lap_len (((w + 1 : Nat) : Int) - (l.2.2.2 : Int)) (cr_rem (l.2.2.1 d) (kn (pK P) (l.1 d)) (pC P))
        rw [h0, Nat.sub_zero, hk]
        unfold gc
        omega
/-- the class reckons it -/
theorem mxI {a b : Nat} (ha : a < 2147483648) (hb : b < 2147483648) : (if nI a < nI b then nI b else nI a) = nI (if a < b then b else a) := by
  by_cases h : a < b
  · rw [if_pos h, if_pos ((nI_ltI (by omega) (by omega)).mpr h)]
  · rw [if_neg h, if_neg (fun q => h ((nI_ltI (by omega) (by omega)).mp q))]
theorem gg_le {l : LW} {K d : Nat} (hl : lw_ok l) (hd : d < 4) : gg l K d ≤ 10 := by
  have := (hl.1 d hd).2.1
  unfold gg km
  split <;> omega
theorem gc_le {l : LW} {K d : Nat} (hl : lw_ok l) (hd : d < 4) : gc l K d ≤ 11 := by
  have := (hl.1 d hd).1.2
  have h1 := kn_le (k := K) this
  have := kg_le K
  unfold gc
  omega
theorem S_most_lp {n i f W : Nat} {x : am_X} {P : PS} {l : LW} (hn : 100 ≤ n) (hP : cP x i P) (hL : cL x 0 l) (hl : lw_ok l) (hf : f ≤ 6) (hf1 : 1 ≤ f) (hW : W ≤ 24) : ∀ (r d k a b : Nat), d + r = 4 → r < k → a ≤ 240 → b ≤ 240 → b_X1_mostStill_45 n k i 0 (nI f) (nI (kg (pK P))) (nI W) (nI a) (nI b) (nI d) x = some (nI (Nat.min (mxF (fW (gg l (pK P)) (gc l (pK P)) (fun d => (pC P).countP (cr_has (l.2.2.1 d)) + kg (pK P) * f) W) r d a) (mxF (fK (gg l (pK P)) (gc l (pK P)) (fun d => (pC P).countP (cr_has (l.2.2.1 d)) + kg (pK P) * f) f) r d b)), x) := by
  have k2 := kg_le (pK P)
  have hk5 := hP.1.1
  have hkf : kg (pK P) * f ≤ 12 := by
    calc kg (pK P) * f ≤ 2 * 6 := Nat.mul_le_mul k2.2 hf
      _ = 12 := rfl
  have hlen := hP.2.2.2.2.2.2.2.1
  intro r
  induction r with
  | zero =>
    intro d k a b hd hk ha hb
    obtain ⟨k, rfl⟩ : ∃ e, k = e + 1 := ⟨k - 1, by omega⟩
    rw [b_X1_mostStill_45, if_pos (show (4 : Int32) ≤ nI d from nI_le (a := 4) (by omega) (by omega))]
    show some ((if nI b < nI a then nI b else nI a), x) = some (nI (Nat.min a b), x)
    by_cases h : b < a
    · rw [if_pos ((nI_ltI (by omega) (by omega)).mpr h), show Nat.min a b = b from Nat.min_eq_right (by omega)]
    · rw [if_neg (fun q => h ((nI_ltI (by omega) (by omega)).mp q)), show Nat.min a b = a from Nat.min_eq_left (by omega)]
  | succ r ih =>
    intro d k a b hd hk ha hb
    obtain ⟨k, rfl⟩ : ∃ e, k = e + 1 := ⟨k - 1, by omega⟩
    have hd4 : d < 4 := by omega
    have ht := (hl.1 d hd4).1
    have h8 := (hl.1 d hd4).2.2
    have hg := gg_le (K := pK P) hl hd4
    have hc := gc_le (K := pK P) hl hd4
    have hcp := gc_pos l (pK P) d
    have hcnt := List.countP_le_length (p := cr_has (l.2.2.1 d)) (l := pC P)
    have ed : nI d + (1 : Int32) = nI (d + 1) := nI_add ..
    have hWg : W * gg l (pK P) d ≤ 240 := by
      calc W * gg l (pK P) d ≤ 24 * 10 := Nat.mul_le_mul hW hg
        _ = 240 := rfl
    have hgf : gg l (pK P) d * f ≤ 240 := by
      calc gg l (pK P) d * f ≤ 10 * 6 := Nat.mul_le_mul hg hf
        _ ≤ 240 := by decide
    have hWd : W * gg l (pK P) d / gc l (pK P) d ≤ 240 := Nat.le_trans (Nat.div_le_self _ _) hWg
    rw [b_X1_mostStill_45, if_neg (show ¬ (4 : Int32) ≤ nI d from nI_ge (b := 4) (by omega) (by omega)), S_worthOf hL hd4, ob]
    dsimp only
    rw [hP.2.1, S_gets x hk5, ob]
    dsimp only
    rw [S_termOf hL hd4, ob]
    dsimp only
    rw [hP.2.1, S_needs x hk5 ht.1 ht.2, ob]
    dsimp only
    rw [S_sortsOf hL hd4, ob]
    dsimp only
    rw [S_howMany hn hP.2.2.2.2.2.2 h8 (by decide) (by decide), cr_how0, ob]
    dsimp only
    unfold b_X1_mostStill_143
    rw [ed, nI_add, pk_mul, nI_add, show kn (pK P) (l.1 d) + kg (pK P) = gc l (pK P) d from rfl, show l.2.1 d + km (pK P) = gg l (pK P) d from rfl, if_neg (show ¬ nI (gc l (pK P) d) ≤ 0 from fun q => by
      have := (nI_leI (b := 0) (by omega) (by omega)).mp q
      omega)]
    show _ = some (nI (Nat.min (mxF _ r (d + 1) (if a < fW (gg l (pK P)) (gc l (pK P)) (fun d => (pC P).countP (cr_has (l.2.2.1 d)) + kg (pK P) * f) W d then fW (gg l (pK P)) (gc l (pK P)) (fun d => (pC P).countP (cr_has (l.2.2.1 d)) + kg (pK P) * f) W d else a)) (mxF _ r (d + 1) (if b < fK (gg l (pK P)) (gc l (pK P)) (fun d => (pC P).countP (cr_has (l.2.2.1 d)) + kg (pK P) * f) f d then fK (gg l (pK P)) (gc l (pK P)) (fun d => (pC P).countP (cr_has (l.2.2.1 d)) + kg (pK P) * f) f d else b))), x)
    by_cases hfit : gc l (pK P) d ≤ (pC P).countP (cr_has (l.2.2.1 d)) + kg (pK P) * f
    · have eW : fW (gg l (pK P)) (gc l (pK P)) (fun d => (pC P).countP (cr_has (l.2.2.1 d)) + kg (pK P) * f) W d = W * gg l (pK P) d / gc l (pK P) d := by unfold fW; rw [if_pos hfit]
      have eK : fK (gg l (pK P)) (gc l (pK P)) (fun d => (pC P).countP (cr_has (l.2.2.1 d)) + kg (pK P) * f) f d = gg l (pK P) d * f := by unfold fK; rw [if_pos hfit]
      rw [if_neg (show ¬ nI ((pC P).countP (cr_has (l.2.2.1 d)) + kg (pK P) * f) < nI (gc l (pK P) d) from fun q => by
        have := (nI_ltI (by omega) (by omega)).mp q
        omega), if_pos (show ¬ nI (gc l (pK P) d) = 0 from fun q => by have := (z0 (by omega)).mp q; omega), pk_mul, nI_div (by omega) hcp (by omega), pk_mul, mxI (by omega) (by omega), mxI (by omega) (by omega), eW, eK]
      exact ih (d + 1) k _ _ (by omega) (by omega) (by split <;> omega) (by split <;> omega)
    · have eW : fW (gg l (pK P)) (gc l (pK P)) (fun d => (pC P).countP (cr_has (l.2.2.1 d)) + kg (pK P) * f) W d = 0 := by unfold fW; rw [if_neg hfit]
      have eK : fK (gg l (pK P)) (gc l (pK P)) (fun d => (pC P).countP (cr_has (l.2.2.1 d)) + kg (pK P) * f) f d = 0 := by unfold fK; rw [if_neg hfit]
      rw [if_pos (show nI ((pC P).countP (cr_has (l.2.2.1 d)) + kg (pK P) * f) < nI (gc l (pK P) d) from (nI_ltI (by omega) (by omega)).mpr (by omega)), eW, eK, if_neg (Nat.not_lt_zero a), if_neg (Nat.not_lt_zero b)]
      exact ih (d + 1) k a b (by omega) (by omega) ha hb
theorem S_most {n i m : Nat} {x : am_X} {P : PS} {l : LW} (hn : 100 ≤ n) (hP : cP x i P) (hL : cL x 0 l) (hl : lw_ok l) (hm : m ≤ 6) : f_X1_mostStill n i (nI m) 0 x = some (nI (gB l P m), x) := by
  have ho := hP.1.2.1
  have hi := pk_sub_toInt (a := m) (b := pO P) (by omega) (by omega)
  have k2 := kg_le (pK P)
  have hlen := hP.2.2.2.2.2.2.2.1
  unfold f_X1_mostStill gB
  rw [hP.2.2.2.1, hP.2.1, kg_tab _ hP.1.1, hP.2.2.2.2.2.2.1]
  by_cases h : m ≤ pO P
  · rw [if_pos h, if_neg (show ¬ 0 < nI m - nI (pO P) from fun q => by
      rw [Int32.lt_iff_toInt_lt, hi, show (0 : Int32).toInt = 0 from rfl] at q
      omega)]
    rfl
  · rw [if_neg h, if_pos (show 0 < nI m - nI (pO P) from by
      rw [Int32.lt_iff_toInt_lt, hi, show (0 : Int32).toInt = 0 from rfl]
      omega), nI_subi (by omega), pk_mul, nI_add]
    · have hkf : kg (pK P) * (m - pO P) ≤ 12 := by
        calc kg (pK P) * (m - pO P) ≤ 2 * 6 := Nat.mul_le_mul k2.2 (by omega)
          _ = 12 := rfl
      exact S_most_lp hn hP hL hl (by omega) (by omega) (by omega) 4 0 n 0 0 rfl (by omega) (by omega) (by omega)
theorem gB_le {l : LW} {P : PS} {m : Nat} (hl : lw_ok l) (hm : m ≤ 6) : gB l P m ≤ 60 := by
  unfold gB
  split
  · omega
  · unfold gV
    refine Nat.le_trans (Nat.min_le_right _ _) (mxF_le _ _ 4 0 0 (Nat.zero_le _) (fun e _ he => ?_))
    unfold fK
    have hg := gg_le (K := pK P) hl (show e < 4 by omega)
    split
    · calc gg l (pK P) e * (m - pO P) ≤ 10 * 6 := Nat.mul_le_mul hg (by omega)
        _ = 60 := rfl
    · exact Nat.zero_le _
