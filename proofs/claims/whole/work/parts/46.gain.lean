/-! gain: the search -/
abbrev GA : Type := Nat × Nat
def gA (k : Nat) : Nat := if k < 7 then dA k else 9
theorem gA_ok (k : Nat) : gA k = 9 ∨ gA k < 3 ∨ (10 ≤ gA k ∧ gA k < 14) := by
  unfold gA dA
  split
  · split
    · omega
    · omega
  · omega
theorem gA_ok' (k : Nat) : gA k = 9 ∨ aOk (gA k) := by
  have := gA_ok k
  unfold aOk
  omega
def gL (f : Nat → GA → GA) : Nat → Nat → GA → GA
  | 0, _, a => a
  | r + 1, p, a => gL f r (p + 1) (f p a)
def gk (l : LW) (w0 : Nat) : Nat → Nat → Nat → Nat → PS → GA → GA
  | 0, _, y, fa, _, a => if a.1 < y + 1 then (y + 1, fa) else a
  | m + 1, d, y, fa, P, a => gL (fun k a' => if may9 l (gA k) P = true then gk l w0 m (d + 1) (y + pGet l (gA k) P) (if d = 0 then gA k else fa) (stp l (gA k) (w0 + d) P) a' else a') 8 0 a
theorem gL_fix {f : Nat → GA → GA} {a : GA} : ∀ (r p : Nat), (∀ q, f q a = a) → gL f r p a = a := by
  intro r
  induction r with
  | zero => intro p _; rfl
  | succ r ih =>
    intro p h
    show gL f r (p + 1) (f p a) = a
    rw [h p, ih (p + 1) h]
theorem gk_prune {l : LW} {w0 : Nat} : ∀ (m d y fa : Nat) (P : PS) (a : GA), y + gB l P m + 1 ≤ a.1 → gk l w0 m d y fa P a = a := by
  intro m
  induction m with
  | zero =>
    intro d y fa P a h
    show (if a.1 < y + 1 then (y + 1, fa) else a) = a
    rw [if_neg (by omega)]
  | succ m ih =>
    intro d y fa P a h
    refine gL_fix 8 0 (fun q => ?_)
    by_cases hm : may9 l (gA q) P = true
    · rw [if_pos hm]
      have := G_step (w := w0 + d) (m := m) (gA_ok q) hm
      exact ih (d + 1) _ _ _ a (by omega)
    · rw [if_neg hm]
theorem pGet_le {l : LW} {a : Nat} {P : PS} (hl : lw_ok l) (ha : a = 9 ∨ a < 3 ∨ (10 ≤ a ∧ a < 14)) : pGet l a P ≤ 10 := by
  unfold pGet
  by_cases h : (10 ≤ a ∧ a < 14) ∨ (20 ≤ a ∧ a < 24)
  · rw [if_pos h]
    have := (hl.1 (a % 10) (by omega)).2.1
    unfold km
    split <;> omega
  · rw [if_neg h]; omega
theorem gL_le {f : Nat → GA → GA} : ∀ (r p : Nat) (a : GA), a.1 ≤ 100 → (∀ q b, b.1 ≤ 100 → (f q b).1 ≤ 100) → (gL f r p a).1 ≤ 100 := by
  intro r
  induction r with
  | zero => intro p a h _; exact h
  | succ r ih => intro p a h hf; exact ih (p + 1) (f p a) (hf p a h) hf
theorem gk_le {l : LW} {w0 : Nat} (hl : lw_ok l) : ∀ (m d y fa : Nat) (P : PS) (a : GA), a.1 ≤ 100 → y + 10 * m + 1 ≤ 100 → (gk l w0 m d y fa P a).1 ≤ 100 := by
  intro m
  induction m with
  | zero =>
    intro d y fa P a h hy
    show (if a.1 < y + 1 then (y + 1, fa) else a).1 ≤ 100
    split
    · show y + 1 ≤ 100; omega
    · exact h
  | succ m ih =>
    intro d y fa P a h hy
    refine gL_le 8 0 a h (fun q b hb => ?_)
    by_cases hm : may9 l (gA q) P = true
    · rw [if_pos hm]
      have := pGet_le (P := P) hl (gA_ok q)
      exact ih (d + 1) _ _ _ b hb (by omega)
    · rw [if_neg hm]; exact hb
/-- only kind, what is owed and the credits matter -/
theorem gk_core {l : LW} {w0 : Nat} : ∀ (m d y fa : Nat) (P P' : PS) (a : GA), pK P = pK P' → pO P = pO P' → pC P = pC P' → gk l w0 m d y fa P a = gk l w0 m d y fa P' a := by
  intro m
  induction m with
  | zero => intro d y fa P P' a _ _ _; rfl
  | succ m ih =>
    intro d y fa P P' a h1 h2 h3
    obtain ⟨K, G, O, A, Z, C⟩ := P
    obtain ⟨K', G', O', A', Z', C'⟩ := P'
    change K = K' at h1
    change O = O' at h2
    change C = C' at h3
    subst h1 h2 h3
    have e : ∀ (k : Nat) (b : GA), gk l w0 m (d + 1) (y + pGet l (gA k) (K, G, O, A, Z, C)) (if d = 0 then gA k else fa) (stp l (gA k) (w0 + d) (K, G, O, A, Z, C)) b = gk l w0 m (d + 1) (y + pGet l (gA k) (K, G', O, A', Z', C)) (if d = 0 then gA k else fa) (stp l (gA k) (w0 + d) (K, G', O, A', Z', C)) b := fun k b => by
      refine ih (d + 1) _ _ _ _ b ?_ ?_ ?_
      · unfold stp; split <;> rfl
      · unfold stp; split <;> rfl
      · unfold stp; split <;> rfl
    show gL (fun k a' => if may9 l (gA k) (K, G, O, A, Z, C) = true then gk l w0 m (d + 1) (y + pGet l (gA k) (K, G, O, A, Z, C)) (if d = 0 then gA k else fa) (stp l (gA k) (w0 + d) (K, G, O, A, Z, C)) a' else a') 8 0 a = gL (fun k a' => if may9 l (gA k) (K, G', O, A', Z', C) = true then gk l w0 m (d + 1) (y + pGet l (gA k) (K, G', O, A', Z', C)) (if d = 0 then gA k else fa) (stp l (gA k) (w0 + d) (K, G', O, A', Z', C)) a' else a') 8 0 a
    congr 1
    funext k a'
    rw [e k a']
    rfl
theorem bI_int {a : Nat} (h : a ≤ 100) : (nI a + (-1 : Int32)).toInt = (a : Int) - 1 := by
  rw [← sub1]
  exact pk_sub_toInt (b := 1) (by omega) (by omega)
theorem prune_iff {a y gb : Nat} (ha : a ≤ 100) (hy : y ≤ 60) (hg : gb ≤ 60) : nI a + (-1) < nI (y + gb) ↔ ¬ y + gb + 1 ≤ a := by
  rw [Int32.lt_iff_toInt_lt, bI_int ha, nI_toInt (by omega)]
  omega
/-! the class -/
def cH (d : Nat) (x x' : am_X) : Prop := (∀ t k i, t ≠ 6 → ¬ ((t = 4 ∨ t = 5) ∧ d < i ∧ i ≤ 19) → xF x' t k i = xF x t k i) ∧ (∀ t i q, ¬ (t = 12 ∧ d < i ∧ i ≤ 19) → xA x' t i q = xA x t i q) ∧ (∀ i, ¬ (d < i ∧ i ≤ 19) → xK x' i = xK x i) ∧ ((∀ i, xK x i < 5) → ∀ i, xK x' i < 5)
theorem cH.rf {d : Nat} {x : am_X} : cH d x x := ⟨fun _ _ _ _ _ => rfl, fun _ _ _ _ => rfl, fun _ _ => rfl, fun h => h⟩
theorem cH.tr {d : Nat} {x y z : am_X} (h : cH d x y) (h' : cH d y z) : cH d x z := ⟨fun t k i a b => (h'.1 t k i a b).trans (h.1 t k i a b), fun t i q a => (h'.2.1 t i q a).trans (h.2.1 t i q a), fun i a => (h'.2.2.1 i a).trans (h.2.2.1 i a), fun a => h'.2.2.2 (h.2.2.2 a)⟩
theorem cH.mono {d d' : Nat} {x x' : am_X} (h : cH d' x x') (hd : d ≤ d') : cH d x x' := ⟨fun t k i a b => h.1 t k i a (by omega), fun t i q a => h.2.1 t i q (by omega), fun i a => h.2.2.1 i (by omega), h.2.2.2⟩
theorem fP_cH {d i : Nat} {x x' : am_X} {P : PS} (h : fP i x x') (hi : d < i ∧ i ≤ 19) (hP : cP x' i P) : cH d x x' := ⟨fun t k j a b => h.1 t k j (by omega), fun t j q a => h.2.1 t j q (by omega), fun j a => h.2.2.1 j (by omega), fun a => fP_K h hP a⟩
theorem cH.cP {d i : Nat} {x x' : am_X} {P : PS} (h : cH d x x') (hi : i ≤ d) (hc : cP x i P) : cP x' i P := ⟨hc.1, by rw [h.2.2.1 i (by omega)]; exact hc.2.1, by rw [h.1 _ _ _ (by omega) (by omega)]; exact hc.2.2.1, by rw [h.1 _ _ _ (by omega) (by omega)]; exact hc.2.2.2.1, by rw [h.1 _ _ _ (by omega) (by omega)]; exact hc.2.2.2.2.1, by rw [h.1 _ _ _ (by omega) (by omega)]; exact hc.2.2.2.2.2.1, by rw [h.1 _ _ _ (by omega) (by omega)]; exact hc.2.2.2.2.2.2.1, hc.2.2.2.2.2.2.2.1, hc.2.2.2.2.2.2.2.2.1, fun k hk => by rw [h.2.1 _ _ _ (by omega)]; exact hc.2.2.2.2.2.2.2.2.2 k hk⟩
theorem cH.cL {d : Nat} {x x' : am_X} {l : LW} (h : cH d x x') (hc : cL x 0 l) : cL x' 0 l := ⟨fun e he => ⟨by rw [h.2.1 _ _ _ (by omega)]; exact (hc.1 e he).1, by rw [h.2.1 _ _ _ (by omega)]; exact (hc.1 e he).2.1, by rw [h.2.1 _ _ _ (by omega)]; exact (hc.1 e he).2.2⟩, by rw [h.1 _ _ _ (by omega) (by omega)]; exact hc.2⟩
theorem cH.eC {x x' : am_X} (h : cH 12 x x') : eC x x' := ⟨fun t k i o => h.1 t k i (fun e => by unfold oF at o; omega) (fun e => by unfold oF at o; omega), fun t i q o => h.2.1 t i q (fun e => by unfold oA at o; omega), fun i o => h.2.2.1 i (by omega), h.2.2.2⟩
def hS (x : am_X) (l : LW) (W w0 fa : Nat) (a : GA) : Prop := cL x 0 l ∧ xF x 6 1 0 = nI W ∧ xF x 6 2 0 = nI w0 ∧ xF x 6 3 0 = nI fa ∧ xF x 6 4 0 = nI a.1 + (-1) ∧ xF x 6 5 0 = nI a.2
theorem fP_hS {i : Nat} {x x' : am_X} {l : LW} {W w0 fa : Nat} {a : GA} (h : fP i x x') (hS' : hS x l W w0 fa a) : hS x' l W w0 fa a := ⟨h.cL hS'.1, by rw [h.1 _ _ _ (by omega)]; exact hS'.2.1, by rw [h.1 _ _ _ (by omega)]; exact hS'.2.2.1, by rw [h.1 _ _ _ (by omega)]; exact hS'.2.2.2.1, by rw [h.1 _ _ _ (by omega)]; exact hS'.2.2.2.2.1, by rw [h.1 _ _ _ (by omega)]; exact hS'.2.2.2.2.2⟩
section CG
variable {n w0 W : Nat} {l : LW}
theorem C_leaf {d y fa : Nat} {x : am_X} {P : PS} {a : GA} {rc : Nat → Int32 → Nat → am_X → Option am_X} (hP : cP x (13 + d) P) (hy : pG P = nI y) (hy6 : y ≤ 60) (ha : a.1 ≤ 100) (hS' : hS x l W w0 fa a) : ∃ x', b_X1_tryFrom_32 n rc 0 (13 + d) x = some x' ∧ hS x' l W w0 fa (gk l w0 0 d y fa P a) ∧ cH (13 + d) x x' := by
  unfold b_X1_tryFrom_32
  rw [hP.2.2.1, hy, hS'.2.2.2.2.1, hS'.2.2.2.1]
  show ∃ x', _ ∧ hS x' l W w0 fa (if a.1 < y + 1 then (y + 1, fa) else a) ∧ _
  have hb := bI_int ha
  by_cases h : a.1 < y + 1
  · rw [if_pos h, if_neg (show ¬ nI y ≤ nI a.1 + (-1) from fun q => by
      rw [Int32.le_iff_toInt_le, hb, nI_toInt (by omega)] at q
      omega)]
    have c1 : cH (13 + d) x (sF (sF x 6 4 0 (nI y)) 6 5 0 (nI fa)) := ⟨fun t k i a b => by rw [xF_sF, if_neg (by omega), xF_sF, if_neg (by omega)], fun _ _ _ _ => rfl, fun _ _ => rfl, fun h => h⟩
    refine ⟨_, rfl, ⟨c1.cL hS'.1, by rw [xF_sF, if_neg (by omega), xF_sF, if_neg (by omega)]; exact hS'.2.1, by rw [xF_sF, if_neg (by omega), xF_sF, if_neg (by omega)]; exact hS'.2.2.1, by rw [xF_sF, if_neg (by omega), xF_sF, if_neg (by omega)]; exact hS'.2.2.2.1, by rw [xF_sF, if_neg (by omega), xF_sF, if_pos ⟨rfl, rfl, rfl⟩]; exact (pk_m1 y).symm, by rw [xF_sF, if_pos ⟨rfl, rfl, rfl⟩]⟩, c1⟩
  · rw [if_neg h, if_pos (show nI y ≤ nI a.1 + (-1) from by
      rw [Int32.le_iff_toInt_le, hb, nI_toInt (by omega)]
      omega)]
    exact ⟨x, rfl, hS', cH.rf⟩
theorem C_hunt (hn : 100 ≤ n) (hl : lw_ok l) (hw : w0 ≤ 1001) (hW : W ≤ 6) : ∀ (m d dep : Nat) (x : am_X) (P : PS) (y fa : Nat) (a : GA), d + m = W → m < dep → cP x (13 + d) P → pG P = nI y → y ≤ 10 * d → pA P = 0 → a.1 ≤ 100 → hS x l W w0 fa a → ∃ x' fa', f_X1_tryFrom n dep 0 (nI d) 0 x = some x' ∧ hS x' l W w0 fa' (gk l w0 m d y fa P a) ∧ (d ≠ 0 → fa' = fa) ∧ cH (13 + d) x x' := by
  intro m
  induction m with
  | zero =>
    intro d dep x P y fa a hd hdep hP hy hy6 hA ha hS'
    obtain ⟨q, rfl⟩ : ∃ e, dep = e + 1 := ⟨dep - 1, by omega⟩
    obtain ⟨x', g1, g2, g3⟩ := C_leaf (n := n) (rc := f_X1_tryFrom n q) hP hy (by omega) ha hS'
    refine ⟨x', fa, ?_, g2, fun _ => rfl, g3⟩
    show g_X1_tryFrom n (f_X1_tryFrom n q) 0 (nI d) 0 x = some x'
    unfold g_X1_tryFrom
    rw [if_neg (show ¬ nI d < 0 from fun e => by rw [lt_z, nI_toInt (by omega)] at e; omega), if_pos (show nI d ≤ (6 : Int32) from (nI_leI (b := 6) (by omega) (by omega)).mpr (by omega)), if_pos (am_inB_nI (by omega) (by omega)), hS'.2.1, if_pos (nI_le (by omega) (by omega)), nI_c (by omega)]
    exact g1
  | succ m ihm =>
    intro d dep x P y fa a hd hdep hP hy hy6 hA ha hS'
    obtain ⟨q, rfl⟩ : ∃ e, dep = e + 1 := ⟨dep - 1, by omega⟩
    have loop : ∀ (r p k : Nat) (x : am_X) (fb : Nat) (a : GA), p + r = 8 → r < k → cP x (13 + d) P → a.1 ≤ 100 → hS x l W w0 fb a → (d ≠ 0 → fb = fa) → ∃ x' fa', b_X1_tryFrom_87 n (f_X1_tryFrom n q) k 0 (nI d) 0 (13 + d) (nI p) x = some x' ∧ hS x' l W w0 fa' (gL (fun k a' => if may9 l (gA k) P = true then gk l w0 m (d + 1) (y + pGet l (gA k) P) (if d = 0 then gA k else fa) (stp l (gA k) (w0 + d) P) a' else a') r p a) ∧ (d ≠ 0 → fa' = fa) ∧ cH (13 + d) x x' := by
      intro r
      induction r with
      | zero =>
        intro p k x fb a hp hk hP ha hS' hfb
        obtain ⟨k, rfl⟩ : ∃ e, k = e + 1 := ⟨k - 1, by omega⟩
        refine ⟨x, fb, ?_, hS', hfb, cH.rf⟩
        rw [b_X1_tryFrom_87, if_pos (show (7 : Int32) < nI p from (nI_ltI (a := 7) (by omega) (by omega)).mpr (by omega))]
      | succ r ih =>
        intro p k x fb a hp hk hP ha hS' hfb
        obtain ⟨k, rfl⟩ : ∃ e, k = e + 1 := ⟨k - 1, by omega⟩
        have ep : nI p + (1 : Int32) = nI (p + 1) := nI_add ..
        have hga := gA_ok p
        -- to the act
        have A : b_X1_tryFrom_87 n (f_X1_tryFrom n q) (k + 1) 0 (nI d) 0 (13 + d) (nI p) x = b_X1_tryFrom_111 n (f_X1_tryFrom n q) (b_X1_tryFrom_87 n (f_X1_tryFrom n q) k) 0 (nI d) 0 (13 + d) (nI p) (nI (gA p)) x := by
          rw [b_X1_tryFrom_87, if_neg (show ¬ (7 : Int32) < nI p from fun e => by
            have := (nI_ltI (a := 7) (by omega) (by omega)).mp e
            omega)]
          by_cases e7 : p = 7
          · rw [if_pos (show (7 : Int32) ≤ nI p from nI_le (a := 7) (by omega) (by omega)), e7]
            rfl
          · rw [if_neg (show ¬ (7 : Int32) ≤ nI p from nI_ge (b := 7) (by omega) (by omega)), S_actAt12 (by omega), ob, show gA p = dA p from by unfold gA; rw [if_pos (by omega)]]
        -- the one that is tried first
        have B : ∃ x1, b_X1_tryFrom_111 n (f_X1_tryFrom n q) (b_X1_tryFrom_87 n (f_X1_tryFrom n q) k) 0 (nI d) 0 (13 + d) (nI p) (nI (gA p)) x = b_X1_tryFrom_123 n (f_X1_tryFrom n q) (b_X1_tryFrom_87 n (f_X1_tryFrom n q) k) 0 (nI d) 0 (13 + d) (nI p) (nI (gA p)) x1 ∧ hS x1 l W w0 (if d = 0 then gA p else fa) a ∧ cH (13 + d) x x1 := by
          unfold b_X1_tryFrom_111
          by_cases e0 : d = 0
          · rw [if_neg (show ¬ ¬ nI d = 0 from fun q => q (by rw [e0]; rfl)), if_pos e0]
            have c1 : cH (13 + d) x (sF x 6 3 0 (nI (gA p))) := ⟨fun t k i a b => by rw [xF_sF, if_neg (by omega)], fun _ _ _ _ => rfl, fun _ _ => rfl, fun h => h⟩
            exact ⟨_, rfl, ⟨c1.cL hS'.1, by rw [xF_sF, if_neg (by omega)]; exact hS'.2.1, by rw [xF_sF, if_neg (by omega)]; exact hS'.2.2.1, by rw [xF_sF, if_pos ⟨rfl, rfl, rfl⟩], by rw [xF_sF, if_neg (by omega)]; exact hS'.2.2.2.2.1, by rw [xF_sF, if_neg (by omega)]; exact hS'.2.2.2.2.2⟩, c1⟩
          · rw [if_pos (show ¬ nI d = 0 from fun q => e0 ((z0 (by omega)).mp q)), if_neg e0, ← hfb e0]
            exact ⟨x, rfl, hS', cH.rf⟩
        obtain ⟨x1, b1, b2, b3⟩ := B
        have hP1 := b3.cP (by omega) hP
        have skip : ¬ may9 l (gA p) P = true → ∃ x' fa', b_X1_tryFrom_87 n (f_X1_tryFrom n q) k 0 (nI d) 0 (13 + d) (nI (p + 1)) x1 = some x' ∧ hS x' l W w0 fa' (gL (fun k a' => if may9 l (gA k) P = true then gk l w0 m (d + 1) (y + pGet l (gA k) P) (if d = 0 then gA k else fa) (stp l (gA k) (w0 + d) P) a' else a') (r + 1) p a) ∧ (d ≠ 0 → fa' = fa) ∧ cH (13 + d) x x' := fun hno => by
          obtain ⟨x', fa', g1, g2, g3, g4⟩ := ih (p + 1) k x1 _ a (by omega) (by omega) hP1 ha b2 (fun e0 => if_neg e0)
          refine ⟨x', fa', g1, ?_, g3, b3.tr g4⟩
          rw [show gL (fun k a' => if may9 l (gA k) P = true then gk l w0 m (d + 1) (y + pGet l (gA k) P) (if d = 0 then gA k else fa) (stp l (gA k) (w0 + d) P) a' else a') (r + 1) p a = gL (fun k a' => if may9 l (gA k) P = true then gk l w0 m (d + 1) (y + pGet l (gA k) P) (if d = 0 then gA k else fa) (stp l (gA k) (w0 + d) P) a' else a') r (p + 1) (if may9 l (gA p) P = true then gk l w0 m (d + 1) (y + pGet l (gA p) P) (if d = 0 then gA p else fa) (stp l (gA p) (w0 + d) P) a else a) from rfl, if_neg hno]
          exact g2
        have hit : may9 l (gA p) P = true → ∃ x' fa', b_X1_tryFrom_140 n (f_X1_tryFrom n q) (b_X1_tryFrom_87 n (f_X1_tryFrom n q) k) 0 (nI d) 0 (13 + d) (nI p) (nI (gA p)) x1 = some x' ∧ hS x' l W w0 fa' (gL (fun k a' => if may9 l (gA k) P = true then gk l w0 m (d + 1) (y + pGet l (gA k) P) (if d = 0 then gA k else fa) (stp l (gA k) (w0 + d) P) a' else a') (r + 1) p a) ∧ (d ≠ 0 → fa' = fa) ∧ cH (13 + d) x x' := fun hyes => by
          have hg10 := pGet_le (P := P) hl hga
          obtain ⟨y1, y2, y3, s1, s2, s3, s4, s5, s6, s7⟩ := S_stp (n := n) (i := 13 + (d + 1)) (a := gA p) (w := w0 + d) hn hl (by omega) (by omega) hP1 b2.1 (gA_ok' p)
          have e1 : xF y1 6 2 0 = nI w0 := by rw [s6.1 _ _ _ (by omega)]; exact b2.2.2.1
          have e2 : xF y2 6 2 0 = nI w0 := by rw [s7.1 _ _ _ (by omega)]; exact b2.2.2.1
          have ed : nI d + (1 : Int32) = nI (d + 1) := nI_add ..
          obtain ⟨x4, fc, t1, t2, t3, t4⟩ := ihm (d + 1) q y3 (stp l (gA p) (w0 + d) P) (y + pGet l (gA p) P) _ a (by omega) (by omega) s4 (by rw [stp_G, hy, nI_add]) (by omega) stp_A ha (fP_hS s5 b2)
          have w1 : cH (13 + d) x1 x4 := (fP_cH s5 (by omega) s4).tr (t4.mono (by omega))
          unfold b_X1_tryFrom_140 b_X1_tryFrom_192
          rw [ed, if_pos (am_inB_nI (by omega) (by omega)), nI_c (by omega), s1, ob, e1, nI_add, s2, ob, e2, nI_add, show nI (w0 + d) + (1 : Int32) = nI (w0 + d + 1) from nI_add .., s3, ob, t1, ob, ep]
          have hle := gk_le (w0 := w0) hl m (d + 1) (y + pGet l (gA p) P) (if d = 0 then gA p else fa) (stp l (gA p) (w0 + d) P) a ha (by omega)
          obtain ⟨x', fa', g1, g2, g3, g4⟩ := ih (p + 1) k x4 fc _ (by omega) (by omega) (w1.cP (by omega) hP1) hle t2 (fun e0 => by rw [t3 (by omega), if_neg e0])
          refine ⟨x', fa', g1, ?_, g3, b3.tr (w1.tr g4)⟩
          rw [show gL (fun k a' => if may9 l (gA k) P = true then gk l w0 m (d + 1) (y + pGet l (gA k) P) (if d = 0 then gA k else fa) (stp l (gA k) (w0 + d) P) a' else a') (r + 1) p a = gL (fun k a' => if may9 l (gA k) P = true then gk l w0 m (d + 1) (y + pGet l (gA k) P) (if d = 0 then gA k else fa) (stp l (gA k) (w0 + d) P) a' else a') r (p + 1) (if may9 l (gA p) P = true then gk l w0 m (d + 1) (y + pGet l (gA p) P) (if d = 0 then gA p else fa) (stp l (gA p) (w0 + d) P) a else a) from rfl, if_pos hyes]
          exact g2
        rw [A, b1]
        unfold b_X1_tryFrom_123
        by_cases e9 : gA p = 9
        · rw [if_pos (show nI (gA p) = (9 : Int32) from by rw [e9]; rfl)]
          exact hit (by unfold may9; rw [decide_eq_true e9, Bool.true_or])
        · rw [if_neg (show ¬ nI (gA p) = (9 : Int32) from fun q => e9 ((nI_eq (b := 9) (by omega) (by omega)).mp q)), S_isFreeTo hn hP1 b2.1 hl ((gA_ok' p).resolve_left e9), ob]
          have efr : pFree l (gA p) P = may9 l (gA p) P := by
            unfold pFree may9
            rw [hA, decide_eq_true rfl, Bool.true_and, decide_eq_false e9, Bool.false_or]
          rw [efr]
          cases hm : may9 l (gA p) P with
          | true =>
            rw [if_pos rfl, if_neg n10]
            exact hit hm
          | false =>
            rw [if_neg (show ¬ false = true from Bool.false_ne_true), if_pos rfl]
            unfold b_X1_tryFrom_192
            rw [ep]
            exact skip (fun w => by rw [hm] at w; exact Bool.false_ne_true w)
    have top : f_X1_tryFrom n (q + 1) 0 (nI d) 0 x = (if nI a.1 + (-1) < nI (y + gB l P (m + 1)) then (b_X1_tryFrom_87 n (f_X1_tryFrom n q) n 0 (nI d) 0 (13 + d) (0 : Int32) x) else some x) := by
      show g_X1_tryFrom n (f_X1_tryFrom n q) 0 (nI d) 0 x = _
      unfold g_X1_tryFrom
      rw [if_neg (show ¬ nI d < 0 from fun e => by rw [lt_z, nI_toInt (by omega)] at e; omega), if_pos (show nI d ≤ (6 : Int32) from (nI_leI (b := 6) (by omega) (by omega)).mpr (by omega)), if_pos (am_inB_nI (by omega) (by omega)), hS'.2.1, if_neg (nI_ge (by omega) (by omega)), if_pos (show ¬ nI d = (6 : Int32) from fun q => by
        have := (nI_eq (b := 6) (by omega) (by omega)).mp q
        omega), nI_c (by omega), nI_subi (by omega), show W - d = m + 1 from by omega, S_most hn hP hS'.1 hl (by omega), ob]
      dsimp only
      rw [hS'.2.2.2.2.1, hP.2.2.1, hy, nI_add]
    rw [top]
    have hB := gB_le (P := P) hl (show m + 1 ≤ 6 by omega)
    by_cases hpr : y + gB l P (m + 1) + 1 ≤ a.1
    · rw [if_neg (fun q => (prune_iff ha (Nat.le_trans hy6 (Nat.mul_le_mul_left 10 (show d ≤ 6 by clear hB hpr; omega))) hB).mp q hpr), gk_prune (m + 1) d y fa P a hpr]
      exact ⟨x, fa, rfl, hS', fun _ => rfl, cH.rf⟩
    · rw [if_pos ((prune_iff ha (Nat.le_trans hy6 (Nat.mul_le_mul_left 10 (show d ≤ 6 by clear hB hpr; omega))) hB).mpr hpr)]
      exact loop 8 0 n x fa a rfl (by omega) hP ha hS' (fun _ => rfl)
end CG
