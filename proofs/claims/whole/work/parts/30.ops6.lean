/-! calls: leave, book, next -/
theorem mP_keep {z z' : am_X} {p : Nat} {P : PS} (hc : mP z p P) (h : ∀ t, 48 ≤ t → t ≤ 53 → xA z' t 0 p = xA z t 0 p) (h2 : ∀ k, k < 12 → xA z' 54 0 (12 * p + k) = xA z 54 0 (12 * p + k)) : mP z' p P :=
  ⟨⟨hc.1.1, hc.1.2.1, by rw [h 48 (by omega) (by omega)]; exact hc.1.2.2.1, by rw [h 49 (by omega) (by omega)]; exact hc.1.2.2.2.1, by rw [h 50 (by omega) (by omega)]; exact hc.1.2.2.2.2.1, by rw [h 53 (by omega) (by omega)]; exact hc.1.2.2.2.2.2.1, hc.1.2.2.2.2.2.2.1, hc.1.2.2.2.2.2.2.2.1, fun k hk => by have := hc.1.2.2.2.2.2.2.1; rw [h2 k (by omega)]; exact hc.1.2.2.2.2.2.2.2.2 k hk⟩, hc.2.1, hc.2.2.1, by rw [h 51 (by omega) (by omega)]; exact hc.2.2.2.1, by rw [h 52 (by omega) (by omega)]; exact hc.2.2.2.2⟩
theorem M_leave_lp {n i j : Nat} {as : List Nat} (hn : 100 ≤ n) (hij : j ≠ i) (hi5 : i < 5) (hj5 : j < 5) : ∀ (m q k a : Nat) (bs : List Nat) (z : am_X), mC z i as → mC z j bs → q + m = as.length → m < k → a ≤ q → ∃ z', b_X9_leave_29 n k 0 (nI i) (nI j) (nI a) (nI q) z = some (nI (a + Nat.min m (12 - bs.length)), sA (sA (sA z' 53 0 i 0) 50 0 i 0) 52 0 i 1) ∧ mC z' j (cr_mov (as.drop q) bs) ∧ fM j z z' := by
  intro m
  induction m with
  | zero =>
    intro q k a bs z h hb hq hk ha
    obtain ⟨k, rfl⟩ : ∃ e, k = e + 1 := ⟨k - 1, by omega⟩
    refine ⟨z, ?_, ?_, fM.rf⟩
    · rw [b_X9_leave_29, if_pos (am_inB_nI (by omega) (by omega)), nI_c (by omega), h.1, if_pos (nI_le (by omega) (by have := h.2.1; omega)), if_pos (am_inB_nI (by omega) (by omega)), if_pos (am_inB_nI (by omega) (by omega)), if_pos (am_inB_nI (by omega) (by omega)), show Nat.min 0 (12 - bs.length) = 0 from Nat.zero_min _]
      rfl
    · rw [List.drop_eq_nil_of_le (by omega)]
      exact hb
  | succ m ih =>
    intro q k a bs z h hb hq hk ha
    obtain ⟨k, rfl⟩ : ∃ e, k = e + 1 := ⟨k - 1, by omega⟩
    have hl := h.2.1
    have hql : q < as.length := by omega
    have hok := h.2.2.1 _ (cr_mem hql)
    obtain ⟨z1, g1, g2, g3⟩ := M_give (n := n) hn hj5 hok hb
    rw [b_X9_leave_29, if_pos (am_inB_nI (by omega) (by omega)), nI_c (by omega), h.1, if_neg (nI_ge hql (by omega)), show (12 : Int32) * nI i + nI q = nI (12 * i + q) from by rw [show (12 : Int32) = nI 12 from rfl, pk_mul, nI_add], if_pos (am_inB_nI (by omega) (by omega)), nI_c (by omega), h.2.2.2 q hql, g1, ob]
    obtain ⟨z', k1, k2, k3⟩ := ih (q + 1) k (a + if bs.length < 12 then 1 else 0) _ z1 (g3.mC (Ne.symm hij) h) g2 (by omega) (by omega) (by split <;> omega)
    refine ⟨z', ?_, ?_, g3.tr k3⟩
    · by_cases e : bs.length < 12
      · rw [if_pos e, if_neg n10]
        unfold b_X9_leave_66
        rw [if_pos e] at k1
        rw [show nI a + (1 : Int32) = nI (a + 1) from nI_add .., show nI q + (1 : Int32) = nI (q + 1) from nI_add .., k1, cr_giv_len' e]
        congr 3
        simp only [Nat.min_def]
        split <;> split <;> omega
      · rw [if_neg e, if_pos rfl]
        unfold b_X9_leave_66
        rw [if_neg e] at k1
        rw [show nI a + (0 : Int32) = nI (a + 0) from nI_add .., show nI q + (1 : Int32) = nI (q + 1) from nI_add .., k1]
        have e' : (cr_giv (as.getD q 0) bs) = bs := by unfold cr_giv; rw [if_neg e]
        rw [e', show 12 - bs.length = 0 from by omega, show Nat.min (m + 1) 0 = 0 from Nat.min_zero _, show Nat.min m 0 = 0 from Nat.min_zero _]
    · rw [cr_drop hql]
      exact k2
section O6
variable {n tm : Nat} {x z : am_X}
theorem O_leave (hn : 100 ≤ n) (ht : tm < 1000) (hk : ∀ i, xK x i < 5) (h : Rel tm x z) (v1 v2 : Int32) : Ok tm (f_X8_leave n 0 v1 v2 x) (f_X9_leave n 0 v1 v2 z) := by
  have h0 := h
  obtain ⟨lr, g, a, l, N, w, T, pi, Np, wp, Tp, ls, bg, tl, sw, B, h1, h2, h3⟩ := h
  have hc := h1.2.2.1
  have hm := h2.2.2.1
  have h4 := hc.1
  unfold f_X8_leave f_X9_leave
  rw [S_arePair hc, ob, M_isPerson hm, ob]
  by_cases hp : hr N T v1 = true ∧ hr N T v2 = true ∧ v1 ≠ v2
  · obtain ⟨ha, hb, hne⟩ := hp
    rw [if_pos (⟨ha, hb, hne⟩ : hr N T v1 = true ∧ hr N T v2 = true ∧ v1 ≠ v2), if_pos n10, if_pos ha, if_neg n10, M_isPerson hm, ob, if_pos hb, if_neg n10, if_pos hne]
    obtain ⟨j1, hj1, rfl, hz1⟩ := hr_of h4 ha
    obtain ⟨j2, hj2, rfl, hz2⟩ := hr_of h4 hb
    have hj : j1 ≠ j2 := fun e => hne (by rw [e])
    have hP1 := hc.2.2.2 j1 (by omega)
    have hP2 := hc.2.2.2 j2 (by omega)
    have hQ1 := hm.2.2.2 j1 (by omega)
    have hQ2 := hm.2.2.2 j2 (by omega)
    rw [S_one (by omega), ob, S_one (by omega), ob]
    dsimp only
    have f1 : fP (4 * 0 + j1) x (sF (sF x 4 5 (4 * 0 + j1) 1) 4 3 (4 * 0 + j1) 0) := fP.put.tr fP.put
    have hP1' : cP (sF (sF x 4 5 (4 * 0 + j1) 1) 4 3 (4 * 0 + j1) 0) (4 * 0 + j1) (pK (T j1), (pG (T j1), (0, (pA (T j1), (1, pC (T j1)))))) :=
      ⟨⟨hP1.1.1, Nat.zero_le _, hP1.1.2.2.1, Nat.le_refl 1⟩, hP1.2.1, by rw [xF_sF, if_neg (by omega), xF_sF, if_neg (by omega)]; exact hP1.2.2.1, by rw [xF_sF, if_pos ⟨rfl, rfl, rfl⟩]; rfl, by rw [xF_sF, if_neg (by omega), xF_sF, if_neg (by omega)]; exact hP1.2.2.2.2.1, by rw [xF_sF, if_neg (by omega), xF_sF, if_pos ⟨rfl, rfl, rfl⟩]; rfl, by
        have c := hP1.2.2.2.2.2.2
        exact ⟨by rw [xF_sF, if_neg (by omega), xF_sF, if_neg (by omega)]; exact c.1, c.2.1, c.2.2.1, c.2.2.2⟩⟩
    have hP2' := f1.cP (show 4 * 0 + j2 ≠ 4 * 0 + j1 by omega) hP2
    obtain ⟨x1, g1, g2, g3, g4, g5, g6⟩ := S_moveTo (n := n) hn (show 4 * 0 + j2 ≠ 4 * 0 + j1 by omega) hP1'.2.2.2.2.2.2 hP2'.2.2.2.2.2.2
    obtain ⟨z1, k1, k2, k3⟩ := M_leave_lp (n := n) (i := j1) (j := j2) hn (Ne.symm hj) (by omega) (by omega) (pC (T j1)).length 0 n 0 _ z hQ1.1.2.2.2.2.2 hQ2.1.2.2.2.2.2 (by omega) (by have := hQ1.1.2.2.2.2.2.2.1; omega) (by omega)
    have kk : ∀ j, xK x1 j = xK x j := fun j => congrFun (congrArg Prod.fst g6) j
    have ft : fT 0 x x1 := (f1.fT (by omega)).tr ⟨fun t' k q a b => g4 t' k q (fun e => b ⟨Or.inr e.1, by omega⟩), fun t' q r a => g5 t' q r (fun e => a ⟨e.1, by omega⟩), fun q _ => kk q, congrArg Prod.snd g6⟩
    have c2 : cT x1 0 N w (fun j => if j = j1 then (pK (T j1), (pG (T j1), (0, (pA (T j1), (1, []))))) else if j = j2 then pCr (T j2) (cr_mov (pC (T j1)) (pC (T j2))) else T j) := by
      refine ⟨h4, ?_, ?_, fun i hi => ?_⟩
      · rw [g4 _ _ _ (fun e => by omega), xF_sF, if_neg (by omega), xF_sF, if_neg (by omega)]; exact hc.2.1
      · rw [g4 _ _ _ (fun e => by omega), xF_sF, if_neg (by omega), xF_sF, if_neg (by omega)]; exact hc.2.2.1
      · dsimp only
        have q4 : ∀ k q, xF x1 4 k q = xF (sF (sF x 4 5 (4 * 0 + j1) 1) 4 3 (4 * 0 + j1) 0) 4 k q := fun k q => g4 4 k q (fun e => by omega)
        by_cases e1 : i = j1
        · rw [if_pos e1, e1]
          exact ⟨hP1'.1, (kk _).trans hP1.2.1, by rw [q4]; exact hP1'.2.2.1, by rw [q4]; exact hP1'.2.2.2.1, by rw [q4]; exact hP1'.2.2.2.2.1, by rw [q4]; exact hP1'.2.2.2.2.2.1, g2⟩
        · rw [if_neg e1]
          by_cases e2 : i = j2
          · rw [if_pos e2, e2]
            exact ⟨hP2'.1, (kk _).trans hP2.2.1, by rw [q4]; exact hP2'.2.2.1, by rw [q4]; exact hP2'.2.2.2.1, by rw [q4]; exact hP2'.2.2.2.2.1, by rw [q4]; exact hP2'.2.2.2.2.2.1, g3⟩
          · rw [if_neg e2]
            have hPi := f1.cP (show 4 * 0 + i ≠ 4 * 0 + j1 by omega) (hc.2.2.2 i hi)
            have c := hPi.2.2.2.2.2.2
            exact ⟨hPi.1, (kk _).trans (hc.2.2.2 i hi).2.1, by rw [q4]; exact hPi.2.2.1, by rw [q4]; exact hPi.2.2.2.1, by rw [q4]; exact hPi.2.2.2.2.1, by rw [q4]; exact hPi.2.2.2.2.2.1, by rw [g4 _ _ _ (fun e => by omega)]; exact c.1, c.2.1, c.2.2.1, fun k hk => by rw [g5 _ _ _ (fun e => by omega)]; exact c.2.2.2 k hk⟩
    have m2 : mT (sA (sA (sA z1 53 0 j1 0) 50 0 j1 0) 52 0 j1 1) N w (fun j => if j = j1 then (pK (T j1), (pG (T j1), (0, (pA (T j1), (1, []))))) else if j = j2 then pCr (T j2) (cr_mov (pC (T j1)) (pC (T j2))) else T j) := by
      have hQ1' := k3.fQ.mP hj hQ1
      refine ⟨h4, ?_, ?_, fun i hi => ?_⟩
      · rw [xF_sA, xF_sA, xF_sA, k3.1]; exact hm.2.1
      · rw [xF_sA, xF_sA, xF_sA, k3.1]; exact hm.2.2.1
      · dsimp only
        have o : ∀ t q, ¬ (t = 53 ∧ q = j1) → ¬ (t = 50 ∧ q = j1) → ¬ (t = 52 ∧ q = j1) → xA (sA (sA (sA z1 53 0 j1 0) 50 0 j1 0) 52 0 j1 1) t 0 q = xA z1 t 0 q := fun t q a b c => by rw [xA_sA, if_neg (by omega), xA_sA, if_neg (by omega), xA_sA, if_neg (by omega)]
        by_cases e1 : i = j1
        · rw [if_pos e1, e1]
          refine ⟨⟨hQ1.1.1, Nat.zero_le _, ?_, ?_, ?_, ?_, Nat.zero_le 12, (fun c hc => absurd hc List.not_mem_nil), fun k hk => absurd hk (Nat.not_lt_zero k)⟩, hQ1.2.1, Nat.le_refl 1, ?_, ?_⟩
          · rw [o _ _ (by omega) (by omega) (by omega)]; exact hQ1'.1.2.2.1
          · rw [o _ _ (by omega) (by omega) (by omega)]; exact hQ1'.1.2.2.2.1
          · rw [xA_sA, if_neg (by omega), xA_sA, if_pos ⟨rfl, rfl, rfl⟩]; rfl
          · rw [xA_sA, if_neg (by omega), xA_sA, if_neg (by omega), xA_sA, if_pos ⟨rfl, rfl, rfl⟩]; rfl
          · rw [o _ _ (by omega) (by omega) (by omega)]; exact hQ1'.2.2.2.1
          · rw [xA_sA, if_pos ⟨rfl, rfl, rfl⟩]; rfl
        · rw [if_neg e1]
          by_cases e2 : i = j2
          · rw [if_pos e2, e2]
            exact mP_keep (mP_crd hQ2 k3 k2) (fun t _ _ => o _ _ (by omega) (by omega) (by omega)) (fun k _ => o _ _ (by omega) (by omega) (by omega))
          · rw [if_neg e2]
            exact mP_keep (k3.fQ.mP e2 (hm.2.2.2 i hi)) (fun t _ _ => o _ _ (by omega) (by omega) (by omega)) (fun k _ => o _ _ (by omega) (by omega) (by omega))
    refine ⟨nI (Nat.min (pC (T j1)).length (12 - (pC (T j2)).length)), x1, sA (sA (sA z1 53 0 j1 0) 50 0 j1 0) 52 0 j1 1, ?_, ?_, Rel.up ⟨lr, g, a, l, N, w, _, pi, Np, wp, Tp, ls, bg, tl, sw, B, RC_town h1 ft c2, RM_town h2 ?_ m2, RI_town h3 ?_ ?_⟩ ht, fT_K ft c2 hk⟩
    · rw [g1, ob]
    · rw [Nat.zero_add] at k1
      exact k1
    · exact ((k3.fQ.fN (by omega)).tr ((fN.put (by omega) (by omega) (by omega)).tr ((fN.put (by omega) (by omega) (by omega)).tr (fN.put (by omega) (by omega) (by omega))))).eY
    · intro i hi
      by_cases e1 : i = j1
      · rw [if_pos e1, e1]
      · rw [if_neg e1]
        by_cases e2 : i = j2
        · rw [if_pos e2, e2]
          rfl
        · rw [if_neg e2]
    · intro i hi d hd
      by_cases e1 : i = j1
      · rw [if_pos e1] at hd
        exact absurd hd List.not_mem_nil
      · rw [if_neg e1] at hd
        by_cases e2 : i = j2
        · rw [if_pos e2] at hd
          rcases cr_mov_mem _ _ _ hd with e | e
          · exact RI_lap h3 j1 hj1 d e
          · exact RI_lap h3 j2 hj2 d e
        · rw [if_neg e2] at hd
          exact RI_lap h3 i hi d hd
  · rw [if_neg hp, if_neg (fun e => e rfl)]
    refine Ok.same0 (v := -101) h0 hk ht rfl ?_
    cases ha : hr N T v1 with
    | false => rw [if_neg (show ¬ false = true from Bool.false_ne_true), if_pos rfl]
    | true =>
      rw [if_pos rfl, if_neg n10, M_isPerson hm, ob]
      cases hb : hr N T v2 with
      | false => rw [if_neg (show ¬ false = true from Bool.false_ne_true), if_pos rfl]
      | true =>
        rw [if_pos rfl, if_neg n10]
        by_cases e : v1 = v2
        · rw [if_neg (fun k => k e)]
        · exact absurd ⟨ha, hb, e⟩ hp
end O6
