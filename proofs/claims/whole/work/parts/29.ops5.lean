/-! calls: sell, leave -/
def pCr (P : PS) (cs : List Nat) : PS := (pK P, (pG P, (pO P, (pA P, (pZ P, cs)))))
theorem mP_crd {z z' : am_X} {p : Nat} {P : PS} {cs : List Nat} (hP : mP z p P) (h : fM p z z') (hc : mC z' p cs) : mP z' p (pCr P cs) := ⟨mQ_crd hP.1 h hc, hP.2.1, hP.2.2.1, by rw [h.2.1 _ _ _ (fun e => by omega) (fun e => by omega)]; exact hP.2.2.2.1, by rw [h.2.1 _ _ _ (fun e => by omega) (fun e => by omega)]; exact hP.2.2.2.2⟩
theorem RI_town {tm lr g a : Nat} {l : LW} {N w : Nat} {T T' : Nat → PS} {pi Np wp : Nat} {Tp : Nat → PS} {ls : List Nat} {bg : Nat} {tl : List Nat} {sw : Nat} {B : PS} (h : RI tm lr g a l N w T pi Np wp Tp ls bg tl sw B) (h1 : ∀ i, i < N → pK (T' i) = pK (T i)) (h2 : ∀ i, i < N → ∀ c ∈ pC (T' i), (w : Int) - (l.2.2.2 : Int) ≤ ((c / 4 : Nat) : Int)) : RI tm lr g a l N w T' pi Np wp Tp ls bg tl sw B := by
  obtain ⟨i1, i2, i3, i4, i5, i6, i7, i8, i9, i10, i11⟩ := h
  exact ⟨i1, i2, i3, i4, i5, i6, i7, i8, i9, fun i hi => lap_iff.mpr (h2 i hi), fun i hi => (h1 i (by omega)).trans (i11 i hi)⟩
theorem RI_lap {tm lr g a : Nat} {l : LW} {N w : Nat} {T : Nat → PS} {pi Np wp : Nat} {Tp : Nat → PS} {ls : List Nat} {bg : Nat} {tl : List Nat} {sw : Nat} {B : PS} (h : RI tm lr g a l N w T pi Np wp Tp ls bg tl sw B) : ∀ i, i < N → ∀ c ∈ pC (T i), (w : Int) - (l.2.2.2 : Int) ≤ ((c / 4 : Nat) : Int) := fun i hi => lap_iff.mp (h.2.2.2.2.2.2.2.2.2.1 i hi)
theorem RI_law {tm lr g a : Nat} {l : LW} {N w : Nat} {T : Nat → PS} {pi Np wp : Nat} {Tp : Nat → PS} {ls : List Nat} {bg : Nat} {tl : List Nat} {sw : Nat} {B : PS} (h : RI tm lr g a l N w T pi Np wp Tp ls bg tl sw B) (hN : 0 < N) : lw_ok l := by
  rcases h.2.2.2.2.1 with e | e
  · have := h.2.2.2.1 e; omega
  · exact e
theorem sh_tab : ∀ k, k < 3 → ((1 : Int32) <<< (nI k &&& 31)) = nI (2 ^ k) := by decide
theorem sh_has : ∀ k, k < 3 → ∀ c, cr_has (2 ^ k) c = true ↔ c % 4 = k := by
  intro k hk c
  unfold cr_has
  rw [Nat.testBit_two_pow, decide_eq_true_eq]
  exact ⟨fun e => e.symm, fun e => e.symm⟩
theorem nI_ne_m1 {a : Nat} (h : a < 2147483648) : ¬ nI a = (-1 : Int32) := fun e => by
  have h2 := congrArg Int32.toInt e
  rw [nI_toInt (by omega), show (-1 : Int32).toInt = -1 from rfl] at h2
  omega
theorem ct_none {s : Nat} {cs : List Nat} : cs.countP (cr_has s) = 0 ↔ cs.find? (cr_has s) = none := by
  rw [List.countP_eq_zero, List.find?_eq_none]
theorem cr_mov_mem : ∀ (as bs : List Nat) (c : Nat), c ∈ cr_mov as bs → c ∈ as ∨ c ∈ bs := by
  intro as
  induction as with
  | nil => intro bs c h; exact Or.inr h
  | cons a as ih =>
    intro bs c h
    rcases ih (cr_giv a bs) c h with e | e
    · exact Or.inl (List.mem_cons_of_mem _ e)
    · rcases cr_giv_mem e with e | e
      · exact Or.inl (e ▸ List.mem_cons_self ..)
      · exact Or.inr e
section O5
variable {n tm : Nat} {x z : am_X}
theorem S_arePair {N w : Nat} {T : Nat → PS} (h : cT x 0 N w T) (v1 v2 : Int32) : f_X8_arePair n 0 v1 v2 x = some ((if hr N T v1 = true ∧ hr N T v2 = true ∧ v1 ≠ v2 then 1 else 0), x) := by
  unfold f_X8_arePair
  rw [S_isHere h, ob]
  cases h1 : hr N T v1 with
  | false => rw [if_neg (show ¬ false = true from Bool.false_ne_true), if_pos rfl, if_neg (fun e => Bool.false_ne_true e.1)]
  | true =>
    rw [if_pos rfl, if_neg n10, S_isHere h, ob]
    cases h2 : hr N T v2 with
    | false => rw [if_neg (show ¬ false = true from Bool.false_ne_true), if_pos rfl, if_neg (fun e => Bool.false_ne_true e.2.1)]
    | true =>
      rw [if_pos rfl, if_neg n10]
      by_cases e : v1 = v2
      · rw [if_pos e, if_neg (fun k => k.2.2 e)]
      · rw [if_neg e, if_pos ⟨rfl, rfl, e⟩]
theorem O_sell (hn : 100 ≤ n) (ht : tm < 1000) (hk : ∀ i, xK x i < 5) (h : Rel tm x z) (v1 v2 v3 : Int32) : Ok tm (f_X8_sell n 0 v1 v2 v3 x) (f_X9_sell n 0 v1 v2 v3 z) := by
  have h0 := h
  obtain ⟨lr, g, a, l, N, w, T, pi, Np, wp, Tp, ls, bg, tl, sw, B, h1, h2, h3⟩ := h
  have hc := h1.2.2.1
  have hm := h2.2.2.1
  have h4 := hc.1
  unfold f_X8_sell f_X9_sell
  rw [S_arePair hc, ob, M_isPerson hm, ob]
  by_cases hp : hr N T v1 = true ∧ hr N T v2 = true ∧ v1 ≠ v2
  · obtain ⟨ha, hb, hne⟩ := hp
    rw [if_pos (⟨ha, hb, hne⟩ : hr N T v1 = true ∧ hr N T v2 = true ∧ v1 ≠ v2), if_neg n10, if_pos ha, if_neg n10, M_isPerson hm, ob, if_pos hb, if_neg n10, if_neg hne, show (3 : Int32) = nI (2 + 1) from rfl, rg_lt v3 2 (by omega), show (2 : Int32) = nI 2 from rfl, W_0 z v3 (by omega), ob]
    obtain ⟨j1, hj1, rfl, hz1⟩ := hr_of h4 ha
    obtain ⟨j2, hj2, rfl, hz2⟩ := hr_of h4 hb
    have hj : j1 ≠ j2 := fun e => hne (by rw [e])
    cases hrr : rg 0 2 v3 with
    | false => exact Ok.same0 (v := -101) h0 hk ht rfl rfl
    | true =>
      obtain ⟨k, _, hk2, rfl⟩ := rg_of (by omega) hrr
      have hk3 : k < 3 := by omega
      have hs8 : 2 ^ k < 8 := by
        rcases (show k = 0 ∨ k = 1 ∨ k = 2 by omega) with e | e | e <;> rw [e] <;> decide
      have hP1 := hc.2.2.2 j1 (by omega)
      have hP2 := hc.2.2.2 j2 (by omega)
      have hQ1 := hm.2.2.2 j1 (by omega)
      have hQ2 := hm.2.2.2 j2 (by omega)
      rw [if_pos rfl, if_pos rfl, if_pos n10, S_one (by omega), ob, S_one (by omega), ob]
      dsimp only
      rw [sh_tab k hk3, S_oldest hn hs8 hP1.2.2.2.2.2.2, ob, M_count hn (by omega) hQ1.1.2.2.2.2.2 hs8, ob]
      cases hf : (pC (T j1)).find? (cr_has (2 ^ k)) with
      | none =>
        have e0 := ct_none.mpr hf
        exact Ok.same0 (v := -103) h0 hk ht rfl (by rw [e0]; rfl)
      | some c =>
        have hcm := List.mem_of_find?_eq_some hf
        have hch := List.find?_some hf
        have hco := hP1.2.2.2.2.2.2.2.2.1 c hcm
        have hlen := List.countP_le_length (p := cr_has (2 ^ k)) (l := pC (T j1))
        have hl1 := hP1.2.2.2.2.2.2.2.1
        have hl2 := hP2.2.2.2.2.2.2.2.1
        have e0 : ¬ nI ((pC (T j1)).countP (cr_has (2 ^ k))) = 0 := fun e => by
          have := ct_none.mp ((z0 (by omega)).mp e)
          rw [this] at hf
          cases hf
        have em : ¬ nI (c / 4) = (-1 : Int32) := nI_ne_m1 (by have := hco.2; omega)
        dsimp only
        rw [if_pos em, if_pos e0, if_pos (am_inB_nI (by omega) (by omega)), nI_c (by omega), S_hasRoom hP2.2.2.2.2.2.2, ob, hQ2.1.2.2.2.2.2.1]
        by_cases hl : (pC (T j2)).length < 12
        · obtain ⟨x1, g1, g2, g3⟩ := S_dropOldest (n := n) (left := 1) hn hs8 (by omega) hP1.2.2.2.2.2.2
          have hP2' := g3.fP.cP (show 4 * 0 + j2 ≠ 4 * 0 + j1 by omega) hP2
          obtain ⟨x2, g4, g5, g6⟩ := S_give (n := n) (s := k) (w := c / 4) hn hk3 (by have := hco.2; omega) hP2'.2.2.2.2.2.2
          obtain ⟨z1, k1, k2, k3⟩ := M_take (n := n) (many := 1) hn (by omega) hs8 (by omega) (by omega) hQ1.1.2.2.2.2.2
          have hQ2' := k3.fQ.mP (show j2 ≠ j1 by omega) hQ2
          obtain ⟨z2, k4, k5, k6⟩ := M_give (n := n) (c := c) hn (show j2 < 5 by omega) hco hQ2'.1.2.2.2.2.2
          rw [show 4 * (c / 4) + k = c from by have := (sh_has k hk3 c).mp hch; omega] at g5
          have c1 := hc.set (by omega) g3.fP (cP_crd hP1 g3 g2)
          have hP2'' : cP x1 (4 * 0 + j2) ((fun j => if j = j1 then pCr (T j1) (cr_rem (2 ^ k) 1 (pC (T j1))) else T j) j2) := by
            dsimp only
            rw [if_neg (Ne.symm hj)]; exact hP2'
          have c2 := c1.set (i := j2) (by omega) g6.fP (cP_crd hP2' g6 g5)
          have m1 := hm.set k3.fQ (mP_crd hQ1 k3 k2)
          have m2 := m1.set k6.fQ (mP_crd hQ2' k6 k5)
          refine ⟨nI (c / 4), x2, z2, ?_, ?_, Rel.up ⟨lr, g, a, l, N, w, _, pi, Np, wp, Tp, ls, bg, tl, sw, B, RC_town h1 ((g3.fP.fT (by omega)).tr (g6.fP.fT (by omega))) c2, RM_town h2 ((k3.fQ.fN (by omega)).tr (k6.fQ.fN (by omega))).eY m2, RI_town h3 ?_ ?_⟩ ht, ?_⟩
          · rw [if_pos hl, if_pos n10, show (1 : Int32) = nI 1 from rfl, g1, ob, g4, ob]
          · rw [if_pos (fun e => by rw [show (12 : Int32) = nI 12 from rfl, nI_eqi (by omega) (by omega)] at e; omega), show (1 : Int32) = nI 1 from rfl, k1, hf, ob]
            dsimp only
            rw [k4, ob, show (4 : Int32) = nI 4 from rfl, nI_div (by have := hco.2; omega) (by omega) (by omega)]
          · intro i hi
            by_cases e2 : i = j2
            · rw [if_pos e2, e2]
            · rw [if_neg e2]
              by_cases e1 : i = j1
              · rw [if_pos e1, e1]
              · rw [if_neg e1]
          · intro i hi d hd
            by_cases e2 : i = j2
            · rw [if_pos e2] at hd
              rcases cr_giv_mem hd with e | e
              · rw [e]; exact RI_lap h3 j1 hj1 c hcm
              · exact RI_lap h3 j2 hj2 d e
            · rw [if_neg e2] at hd
              by_cases e1 : i = j1
              · rw [if_pos e1] at hd
                exact RI_lap h3 j1 hj1 d (cr_rem_mem _ _ _ _ hd)
              · rw [if_neg e1] at hd
                exact RI_lap h3 i hi d hd
          · exact fT_K ((g3.fP.fT (t := 0) (by omega)).tr (g6.fP.fT (by omega))) c2 hk
        · refine Ok.same0 (v := -104) h0 hk ht ?_ ?_
          · rw [if_neg hl, if_neg (fun e => e rfl)]
          · rw [if_neg (fun e => e (by rw [show (pC (T j2)).length = 12 from by omega]; rfl))]
  · rw [if_neg hp, if_pos rfl]
    refine Ok.same0 (v := -101) h0 hk ht rfl ?_
    cases ha : hr N T v1 with
    | false => rw [if_neg (show ¬ false = true from Bool.false_ne_true), if_pos rfl]
    | true =>
      rw [if_pos rfl, if_neg n10, M_isPerson hm, ob]
      cases hb : hr N T v2 with
      | false => rw [if_neg (show ¬ false = true from Bool.false_ne_true), if_pos rfl]
      | true =>
        rw [if_pos rfl, if_neg n10]
        by_cases e : v1 = v2
        · rw [if_pos e]
        · exact absurd ⟨ha, hb, e⟩ hp
end O5
