/-! CALLS, one by one (3): acts, weeks, amnesty, numbers -/
def aB (v : Int32) : Bool := rg 0 2 v || (rg 10 13 v || rg 20 23 v)
theorem aB_of {v : Int32} (h : aB v = true) : ∃ a, aOk a ∧ v = nI a := by
  unfold aB at h
  rw [Bool.or_eq_true, Bool.or_eq_true] at h
  rcases h with h | h | h
  · obtain ⟨j, h1, h2, rfl⟩ := rg_of (by omega) h
    exact ⟨j, Or.inl (by omega), rfl⟩
  · obtain ⟨j, h1, h2, rfl⟩ := rg_of (by omega) h
    exact ⟨j, Or.inr (Or.inl (by omega)), rfl⟩
  · obtain ⟨j, h1, h2, rfl⟩ := rg_of (by omega) h
    exact ⟨j, Or.inr (Or.inr (by omega)), rfl⟩
theorem rg_ab {α : Type} (v : Int32) (a b : Nat) (ha : a < 2147483648) (hb : b < 2147483647) (A B : α) : (if v < nI a then A else if nI (b + 1) ≤ v then A else B) = if rg a b v = true then B else A := by
  unfold rg
  by_cases e : v < nI a
  · rw [if_pos e, if_neg]
    rw [lt_nI ha] at e
    simp
    omega
  · rw [if_neg e]
    rw [lt_nI ha] at e
    by_cases e2 : nI (b + 1) ≤ v
    · rw [if_pos e2, if_neg]
      rw [nI_le' (by omega)] at e2
      simp
      omega
    · rw [if_neg e2, if_pos]
      rw [nI_le' (by omega)] at e2
      simp
      omega
theorem S_isAct {n : Nat} {x : am_X} (v : Int32) : f_X8_isAct n v x = some ((if aB v = true then 1 else 0), x) := by
  have h1 : f_X8_isServing n v x = some ((if rg 0 2 v = true then 1 else 0), x) := by
    unfold f_X8_isServing
    rw [show (3 : Int32) = nI (2 + 1) from rfl, rg_ge v 2 (by omega)]
    split <;> rfl
  have h2 : f_X8_isCoveredDeed n v x = some ((if rg 10 13 v = true then 1 else 0), x) := by
    unfold f_X8_isCoveredDeed
    rw [show (10 : Int32) = nI 10 from rfl, show (14 : Int32) = nI (13 + 1) from rfl, rg_ab v 10 13 (by omega) (by omega)]
    split <;> rfl
  have h3 : f_X8_isBareDeed n v x = some ((if rg 20 23 v = true then 1 else 0), x) := by
    unfold f_X8_isBareDeed
    rw [show (20 : Int32) = nI 20 from rfl, show (24 : Int32) = nI (23 + 1) from rfl, rg_ab v 20 23 (by omega) (by omega)]
    split <;> rfl
  unfold f_X8_isAct aB
  cases e1 : rg 0 2 v with
  | true =>
    rw [e1] at h1
    rw [show f_X8_isServing n v x = some (1, x) from h1]
    rfl
  | false =>
    rw [e1] at h1
    rw [show f_X8_isServing n v x = some (0, x) from h1, ob, if_neg (fun w => w rfl)]
    cases e2 : rg 10 13 v with
    | true =>
      rw [e2] at h2
      rw [show f_X8_isCoveredDeed n v x = some (1, x) from h2]
      rfl
    | false =>
      rw [e2] at h2
      rw [show f_X8_isCoveredDeed n v x = some (0, x) from h2, ob, if_neg (fun w => w rfl), h3, ob]
      cases rg 20 23 v <;> rfl
theorem M_isAct {n : Nat} {z : am_X} (v : Int32) : f_X9_isAct n v z = some ((if aB v = true then 1 else 0), z) := by
  have h1 : f_X9_within n v (0 : Int32) (2 : Int32) z = some ((if rg 0 2 v = true then 1 else 0), z) := M_within (a := 0) (b := 2) z v (by omega) (by omega)
  have h2 : f_X9_within n v (10 : Int32) (13 : Int32) z = some ((if rg 10 13 v = true then 1 else 0), z) := M_within (a := 10) (b := 13) z v (by omega) (by omega)
  have h3 : f_X9_within n v (20 : Int32) (23 : Int32) z = some ((if rg 20 23 v = true then 1 else 0), z) := M_within (a := 20) (b := 23) z v (by omega) (by omega)
  unfold f_X9_isAct aB
  cases e1 : rg 0 2 v with
  | true =>
    rw [e1] at h1
    rw [show f_X9_within n v (0 : Int32) (2 : Int32) z = some (1, z) from h1]
    rfl
  | false =>
    rw [e1] at h1
    rw [show f_X9_within n v (0 : Int32) (2 : Int32) z = some (0, z) from h1, ob, if_neg (fun w => w rfl)]
    cases e2 : rg 10 13 v with
    | true =>
      rw [e2] at h2
      rw [show f_X9_within n v (10 : Int32) (13 : Int32) z = some (1, z) from h2]
      rfl
    | false =>
      rw [e2] at h2
      rw [show f_X9_within n v (10 : Int32) (13 : Int32) z = some (0, z) from h2, ob, if_neg (fun w => w rfl), h3, ob]
      cases rg 20 23 v <;> rfl
theorem M_mayNow {n p a : Nat} {z : am_X} {P : PS} {l : LW} (hn : 100 ≤ n) (hp : p < 4) (hP : mP z p P) (hL : mL z l) (hl : lw_ok l) (ha : aOk a) : f_X9_mayNow n 0 (nI p) (nI a) z = some ((if pFree l a P = true then 1 else 0), z) := by
  have ha1 := hP.2.1
  unfold f_X9_mayNow pFree
  rw [if_pos (am_inB_nI (by omega) (by omega)), nI_c (by omega), hP.2.2.2.1]
  by_cases e : pA P = 0
  · rw [if_neg (fun w => w ((z0 (by omega)).mpr e)), M_mayDo hn (by omega) hP.1 hL hl ha, ob, decide_eq_true e, Bool.true_and]
    split <;> rfl
  · rw [if_pos (fun w => e ((z0 (by omega)).mp w)), if_neg (by simp [e])]
theorem lap_iff {lo : Int} {cs : List Nat} : cr_lap lo cs = cs ↔ ∀ c ∈ cs, lo ≤ ((c / 4 : Nat) : Int) := by
  unfold cr_lap
  rw [List.filter_eq_self]
  simp only [decide_eq_true_eq]
theorem cr_giv_mem {c d : Nat} {cs : List Nat} (h : d ∈ cr_giv c cs) : d = c ∨ d ∈ cs := by
  unfold cr_giv at h
  split at h
  · exact cr_at_mem h
  · exact Or.inr h
theorem pCrd_mem {l : LW} {a w c : Nat} {P : PS} (ha : aOk a) (h : c ∈ pCrd l a w P) : c / 4 = w ∨ c ∈ pC P := by
  unfold pCrd at h
  split at h
  · split at h
    · split at h
      · rcases cr_giv_mem h with h | h
        · exact Or.inl (by omega)
        · rcases cr_giv_mem h with h | h
          · exact Or.inl (by omega)
          · exact Or.inr h
      · rcases cr_giv_mem h with h | h
        · exact Or.inl (by omega)
        · exact Or.inr h
    · exact Or.inr h
  · split at h
    · exact Or.inr (cr_rem_mem _ _ _ _ h)
    · exact Or.inr h
theorem fT.eX {t : Nat} {x x' : am_X} (h : fT t x x') : eX (fun t' _ i => (t' = 3 ∧ i = t) ∨ ((t' = 4 ∨ t' = 5) ∧ 4 * t ≤ i ∧ i < 4 * t + 4)) (fun t' i => t' = 12 ∧ 4 * t ≤ i ∧ i < 4 * t + 4) x x' := ⟨fun t' k i o => h.1 t' k i (fun e => o (Or.inl e)) (fun e => o (Or.inr e)), fun t' i q o => h.2.1 t' i q o, fun i o => h.2.2.1 i (fun e => o (Or.inr ⟨Or.inl rfl, e⟩))⟩
/-- the town is another one -/
theorem RC_town {x x' : am_X} {lr g a : Nat} {l : LW} {N w : Nat} {T : Nat → PS} {pi Np wp : Nat} {Tp : Nat → PS} {ls : List Nat} {bg : Nat} {tl : List Nat} {sw : Nat} {B : PS} {N' w' : Nat} {T' : Nat → PS} (h : RC x lr g a l N w T pi Np wp Tp ls bg tl sw B) (e : fT 0 x x') (hc : cT x' 0 N' w' T') : RC x' lr g a l N' w' T' pi Np wp Tp ls bg tl sw B :=
  ⟨e.eX.A (by intro k; omega) h.1, e.eX.L (by omega) (by omega) h.2.1, hc, e.eX.T (by intro k; omega) (by intro i _ k; omega) (by intro i _; omega) h.2.2.2.1, e.eX.G (by omega) (by omega) h.2.2.2.2.1, e.eX.B (by intro k; omega) (by omega) h.2.2.2.2.2.1, e.eX.B2 (by omega) (by intro k; omega) (by omega) h.2.2.2.2.2.2⟩
def tF (k : Nat) : Prop := k = 6 ∨ k = 7
def tA (t q : Nat) : Prop := (48 ≤ t ∧ t ≤ 53 ∧ q < 4) ∨ (t = 54 ∧ q < 48)
theorem fN.eY {z z' : am_X} (h : fN z z') : eY tF tA z z' := ⟨fun k o => h.1 32 k 0 (fun e => o (Or.inl e.2.1)), fun t q o => h.2.1 t 0 q (fun e => o (Or.inl e)) (fun e => o (Or.inr e))⟩
theorem RM_town {z z' : am_X} {lr g a : Nat} {l : LW} {N w : Nat} {T : Nat → PS} {pi Np wp : Nat} {Tp : Nat → PS} {ls : List Nat} {bg : Nat} {tl : List Nat} {sw : Nat} {B : PS} {N' w' : Nat} {T' : Nat → PS} (h : RM z lr g a l N w T pi Np wp Tp ls bg tl sw B) (e : eY tF tA z z') (hm : mT z' N' w' T') : RM z' lr g a l N' w' T' pi Np wp Tp ls bg tl sw B :=
  ⟨e.A (by unfold tF; omega) h.1, e.L (by unfold tF; omega) (by intro d; unfold tA; omega) h.2.1, hm, e.I (by unfold tF; omega) (by intro t q _ _; unfold tA; omega) h.2.2.2.1, e.G (by unfold tF; omega) (by intro q; unfold tA; omega) h.2.2.2.2.1, e.B (by unfold tF; omega) (by intro q; unfold tA; omega) h.2.2.2.2.2.1, e.B2 (by unfold tF; omega) (by intro q; unfold tA; omega) h.2.2.2.2.2.2⟩
theorem fP_K {i : Nat} {x x' : am_X} {P : PS} (h : fP i x x') (hP : cP x' i P) (hk : ∀ j, xK x j < 5) : ∀ j, xK x' j < 5 := by
  intro j
  by_cases e : j = i
  · rw [e, hP.2.1]; exact hP.1.1
  · rw [h.2.2.1 j e]; exact hk j
theorem fT_K {t N w : Nat} {x x' : am_X} {T : Nat → PS} (h : fT t x x') (hc : cT x' t N w T) (hk : ∀ j, xK x j < 5) : ∀ j, xK x' j < 5 := by
  intro j
  by_cases e : 4 * t ≤ j ∧ j < 4 * t + 4
  · have hP := hc.2.2.2 (j - 4 * t) (by omega)
    rw [show 4 * t + (j - 4 * t) = j from by omega] at hP
    rw [hP.2.1]; exact hP.1.1
  · rw [h.2.2.1 j e]; exact hk j
theorem mP_did {z : am_X} {p : Nat} {P : PS} (hP : mQ z p P) (v : Nat) (hv : v ≤ 1) (hz : pZ P ≤ 1) (e6 : xA z 52 0 p = nI (pZ P)) : mP (sA z 51 0 p (nI v)) p (pK P, (pG P, (pO P, (v, (pZ P, pC P))))) := by
  have e : ∀ (t i q : Nat), t ≠ 51 → xA (sA z 51 0 p (nI v)) t i q = xA z t i q := fun t i q hne => by rw [xA_sA, if_neg (fun w => hne w.1)]
  exact ⟨⟨hP.1, hP.2.1, by rw [e _ _ _ (by omega)]; exact hP.2.2.1, by rw [e _ _ _ (by omega)]; exact hP.2.2.2.1, by rw [e _ _ _ (by omega)]; exact hP.2.2.2.2.1, by rw [e _ _ _ (by omega)]; exact hP.2.2.2.2.2.1, hP.2.2.2.2.2.2.1, hP.2.2.2.2.2.2.2.1, fun k hk => by rw [e _ _ _ (by omega)]; exact hP.2.2.2.2.2.2.2.2 k hk⟩, hv, hz, by rw [xA_sA, if_pos ⟨rfl, rfl, rfl⟩], by rw [e _ _ _ (by omega)]; exact e6⟩
/-- an ACT in the people of the reference, and that he did it -/
theorem M_actP {n p a w : Nat} {z : am_X} {P : PS} {l : LW} (hn : 100 ≤ n) (hp : p < 4) (hP : mP z p P) (hL : mL z l) (hl : lw_ok l) (ha : aOk a) (hw : w < 2000) (hb : 20 ≤ a → pO P = 0) : ∃ z', f_X9_doAct n 0 (nI p) (nI a) (nI w) z = some z' ∧ mP (sA z' 51 0 p (1 : Int32)) p (pDo l a w P) ∧ fQ p z z' := by
  obtain ⟨z1, g1, g2, g3⟩ := M_doAct hn (show p < 5 by omega) hP.1 hL hl ha hw hb
  exact ⟨z1, g1, mP_did g2 1 (by omega) hP.2.2.1 (by rw [g3.2.1 _ _ _ (fun e => by omega) (fun e => by omega)]; exact hP.2.2.2.2), g3⟩
theorem mT.did {N w p : Nat} {z z' : am_X} {T : Nat → PS} {P : PS} {v : Int32} (h : mT z N w T) (hf : fQ p z z') (hP : mP (sA z' 51 0 p v) p P) : mT (sA z' 51 0 p v) N w (fun j => if j = p then P else T j) := ⟨h.1, by rw [xF_sA, hf.1]; exact h.2.1, by rw [xF_sA, hf.1]; exact h.2.2.1, fun j hj => by
  show mP _ j (if j = p then P else T j)
  by_cases e : j = p
  · rw [if_pos e, e]; exact hP
  · rw [if_neg e]
    have hc := hf.mP e (h.2.2.2 j hj)
    have e2 : ∀ (t i q : Nat), ¬ (t = 51 ∧ i = 0 ∧ q = p) → xA (sA z' 51 0 p v) t i q = xA z' t i q := fun t i q hne => by rw [xA_sA, if_neg hne]
    exact ⟨⟨hc.1.1, hc.1.2.1, by rw [e2 _ _ _ (by omega)]; exact hc.1.2.2.1, by rw [e2 _ _ _ (by omega)]; exact hc.1.2.2.2.1, by rw [e2 _ _ _ (by omega)]; exact hc.1.2.2.2.2.1, by rw [e2 _ _ _ (by omega)]; exact hc.1.2.2.2.2.2.1, hc.1.2.2.2.2.2.2.1, hc.1.2.2.2.2.2.2.2.1, fun k hk => by rw [e2 _ _ _ (by omega)]; exact hc.1.2.2.2.2.2.2.2.2 k hk⟩, hc.2.1, hc.2.2.1, by rw [e2 _ _ _ (by omega)]; exact hc.2.2.2.1, by rw [e2 _ _ _ (by omega)]; exact hc.2.2.2.2⟩⟩
theorem pFree_bare {l : LW} {a : Nat} {P : PS} (h : pFree l a P = true) (ha : aOk a) : 20 ≤ a → pO P = 0 := by
  intro h20
  unfold pFree pMay at h
  rw [Bool.and_eq_true, if_neg (show ¬ a < 3 by omega), if_neg (show ¬ (10 ≤ a ∧ a < 14) by omega), decide_eq_true_eq, decide_eq_true_eq] at h
  exact h.2
section O3
variable {n tm : Nat} {x z : am_X}
theorem O_may (hn : 100 ≤ n) (ht : tm < 1000) (hk : ∀ i, xK x i < 5) (h : Rel tm x z) (v w' : Int32) : Ok tm (f_X8_may n 0 v w' x) (f_X9_may n 0 v w' z) := by
  have h0 := h
  obtain ⟨lr, g, a, l, N, w, T, pi, Np, wp, Tp, ls, bg, tl, sw, B, h1, h2, h3⟩ := h
  have hc := h1.2.2.1
  have hm := h2.2.2.1
  have h4 := hc.1
  unfold f_X8_may f_X9_may
  rw [S_isHere hc, ob, M_isPerson hm, ob]
  cases hb : hr N T v with
  | false => exact Ok.same0 (v := -101) h0 hk ht rfl rfl
  | true =>
    obtain ⟨j, hj, rfl, hz⟩ := hr_of h4 hb
    rw [if_pos rfl, if_neg n10, if_neg n10, S_isAct, ob, M_isAct, ob]
    cases hr : aB w' with
    | false => exact Ok.same0 (v := -101) h0 hk ht rfl rfl
    | true =>
      obtain ⟨c, c1, rfl⟩ := aB_of hr
      have hlw : lw_ok l := by
        rcases h3.2.2.2.2.1 with e | e
        · have := h3.2.2.2.1 e; omega
        · exact e
      refine Ok.same0 (v := if pFree l c (T j) = true then 1 else 0) h0 hk ht ?_ ?_
      · rw [if_pos rfl, if_pos n10, S_one (by omega), ob, S_isFreeTo hn (hc.2.2.2 j (by omega)) h1.2.1 hlw c1, ob]
        cases pFree l c (T j) <;> rfl
      · rw [if_pos rfl, if_pos n10, M_mayNow hn (by omega) (hm.2.2.2 j hj) h2.2.1 hlw c1, ob]
        cases pFree l c (T j) <;> rfl
theorem O_act (hn : 100 ≤ n) (ht : tm < 1000) (hk : ∀ i, xK x i < 5) (h : Rel tm x z) (v w' : Int32) : Ok tm (f_X8_act n 0 v w' x) (f_X9_act n 0 v w' z) := by
  have h0 := h
  obtain ⟨lr, g, a, l, N, w, T, pi, Np, wp, Tp, ls, bg, tl, sw, B, h1, h2, h3⟩ := h
  have hc := h1.2.2.1
  have hm := h2.2.2.1
  have h4 := hc.1
  unfold f_X8_act f_X9_act
  rw [S_isHere hc, ob, M_isPerson hm, ob]
  cases hb : hr N T v with
  | false => exact Ok.same0 (v := -101) h0 hk ht rfl rfl
  | true =>
    obtain ⟨j, hj, rfl, hz⟩ := hr_of h4 hb
    rw [if_pos rfl, if_neg n10, if_neg n10, S_isAct, ob, M_isAct, ob]
    cases hr : aB w' with
    | false => exact Ok.same0 (v := -101) h0 hk ht rfl rfl
    | true =>
      obtain ⟨c, c1, rfl⟩ := aB_of hr
      have hlw : lw_ok l := by
        rcases h3.2.2.2.2.1 with e | e
        · have := h3.2.2.2.1 e; omega
        · exact e
      rw [if_pos rfl, if_pos n10, if_pos n10, S_one (by omega), ob, S_isFreeTo hn (hc.2.2.2 j (by omega)) h1.2.1 hlw c1, ob, M_mayNow hn (by omega) (hm.2.2.2 j hj) h2.2.1 hlw c1, ob]
      cases hfr : pFree l c (T j) with
      | false => exact Ok.same0 (v := -103) h0 hk ht rfl rfl
      | true =>
        rw [if_pos rfl, if_pos n10, if_pos n10, hc.2.2.1, hm.2.2.1]
        have hw : w < 2000 := by have := h3.1; omega
        obtain ⟨x1, g1, g2, g3⟩ := S_does (n := n) (a := c) (w := w) hn (hc.2.2.2 j (by omega)) h1.2.1 hlw c1 hw
        obtain ⟨z1, k1, k2, k3⟩ := M_actP (n := n) (a := c) (w := w) hn (by omega) (hm.2.2.2 j hj) h2.2.1 hlw c1 hw (pFree_bare hfr c1)
        rw [g1, ob, k1, ob, if_pos (am_inB_nI (by omega) (by omega)), if_pos (am_inB_nI (by omega) (by omega)), nI_c (by omega)]
        have hcT := hc.set (by omega) g3 g2
        have hmT := hm.did k3 k2
        refine ⟨pG (pDo l c w (T j)), x1, sA z1 51 0 j (1 : Int32), by rw [g2.2.2.1], by rw [show xA z1 49 0 j = _ from k2.1.2.2.2.1], Rel.up ⟨lr, g, a, l, N, w, _, pi, Np, wp, Tp, ls, bg, tl, sw, B, RC_town h1 (g3.fT (by omega)) hcT, RM_town h2 ?_ hmT, ?_⟩ ht, fP_K g3 g2 hk⟩
        · exact ((k3.fN (by omega)).tr (fN.put (by omega) (by omega) (by omega))).eY
        · obtain ⟨i1, i2, i3, i4, i5, i6, i7, i8, i9, i10, i11⟩ := h3
          refine ⟨i1, i2, i3, i4, i5, i6, i7, i8, i9, fun i hi => ?_, fun i hi => ?_⟩
          · dsimp only
            by_cases e : i = j
            · rw [if_pos e, lap_iff]
              intro d hd
              rcases pCrd_mem c1 hd with h | h
              · rw [h]; omega
              · exact lap_iff.mp (i10 j hj) d h
            · rw [if_neg e]; exact i10 i hi
          · dsimp only
            by_cases e : i = j
            · rw [if_pos e, ← e]; exact i11 i hi
            · rw [if_neg e]; exact i11 i hi
end O3
