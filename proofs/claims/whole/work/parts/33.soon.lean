/-! soon -/
theorem fP_eC' {i : Nat} {x x' : am_X} (h : fP i x x') (hi : 8 ≤ i ∧ i ≠ 20) (hk : ∀ j, xK x' j < 5) : eC x x' := by
  refine ⟨fun t k j o => h.1 t k j (fun e => ?_), fun t j q o => h.2.1 t j q (fun e => ?_), fun j o => h.2.2.1 j (fun e => by omega), fun _ => hk⟩
  · unfold oF at o
    omega
  · unfold oA at o
    omega
theorem M_copy_lp {n p q : Nat} (hp : p < 5) (hq : q < 5) (hpq : p ≠ q) : ∀ (m r k : Nat) (z : am_X), (∀ s, s < r → xA z 54 0 (12 * q + s) = xA z 54 0 (12 * p + s)) → r + m = 12 → m < k → ∃ z', b_X9_copy_50 n k 0 (nI p) (nI q) (nI r) z = some z' ∧ (∀ s, s < 12 → xA z' 54 0 (12 * q + s) = xA z 54 0 (12 * p + s)) ∧ (∀ t k j, xF z' t k j = xF z t k j) ∧ (∀ t i s, ¬ (t = 54 ∧ 12 * q ≤ s ∧ s < 12 * q + 12) → xA z' t i s = xA z t i s) ∧ z'.2.2 = z.2.2 := by
  intro m
  induction m with
  | zero =>
    intro r k z h hr hk
    obtain ⟨k, rfl⟩ : ∃ e, k = e + 1 := ⟨k - 1, by omega⟩
    refine ⟨z, ?_, fun s hs => h s (by omega), fun _ _ _ => rfl, fun _ _ _ _ => rfl, rfl⟩
    rw [b_X9_copy_50, if_pos (show (12 : Int32) ≤ nI r from nI_le (a := 12) (by omega) (by omega))]
  | succ m ih =>
    intro r k z h hr hk
    obtain ⟨k, rfl⟩ : ∃ e, k = e + 1 := ⟨k - 1, by omega⟩
    rw [b_X9_copy_50, if_neg (show ¬ (12 : Int32) ≤ nI r from nI_ge (b := 12) (by omega) (by omega)), show (12 : Int32) * nI p + nI r = nI (12 * p + r) from by rw [show (12 : Int32) = nI 12 from rfl, pk_mul, nI_add], show (12 : Int32) * nI q + nI r = nI (12 * q + r) from by rw [show (12 : Int32) = nI 12 from rfl, pk_mul, nI_add], if_pos (am_inB_nI (by omega) (by omega)), if_pos (am_inB_nI (by omega) (by omega)), nI_c (by omega), nI_c (by omega), show nI r + (1 : Int32) = nI (r + 1) from nI_add ..]
    obtain ⟨z', g1, g2, g3, g4, g5⟩ := ih (r + 1) k (sA z 54 0 (12 * q + r) (xA z 54 0 (12 * p + r))) (fun s hs => by
      rw [xA_sA, xA_sA, if_neg (show ¬ (54 = 54 ∧ 0 = 0 ∧ 12 * p + s = 12 * q + r) by omega)]
      by_cases e : s = r
      · rw [if_pos ⟨rfl, rfl, by omega⟩, e]
      · rw [if_neg (by omega)]; exact h s (by omega)) (by omega) (by omega)
    refine ⟨z', g1, fun s hs => ?_, fun t k j => ?_, fun t i s hs => ?_, g5⟩
    · rw [g2 s hs, xA_sA, if_neg (by omega)]
    · rw [g3, xF_sA]
    · rw [g4 t i s hs, xA_sA, if_neg (by omega)]
theorem M_copy {n p q : Nat} {z : am_X} {P : PS} (hn : 100 ≤ n) (hp : p < 5) (hq : q < 5) (hpq : p ≠ q) (h : mQ z p P) : ∃ z', f_X9_copy n 0 (nI p) (nI q) z = some z' ∧ mQ z' q P ∧ fQ q z z' := by
  have ip : am_inB (nI p) 5 = true := am_inB_nI (by omega) (by omega)
  have iq : am_inB (nI q) 5 = true := am_inB_nI (by omega) (by omega)
  unfold f_X9_copy
  rw [if_pos ip, if_pos iq, if_pos ip, if_pos iq, if_pos ip, if_pos iq, if_pos ip, if_pos iq, nI_c (by omega), nI_c (by omega)]
  obtain ⟨z', g1, g2, g3, g4, g5⟩ := M_copy_lp (n := n) hp hq hpq 12 0 n (sA (sA (sA (sA z 48 0 q (xA z 48 0 p)) 49 0 q (xA z 49 0 p)) 50 0 q (xA z 50 0 p)) 53 0 q (xA z 53 0 p)) (fun s hs => absurd hs (Nat.not_lt_zero s)) (by omega) (by omega)
  refine ⟨z', g1, ⟨h.1, h.2.1, ?_, ?_, ?_, ?_, h.2.2.2.2.2.2.1, h.2.2.2.2.2.2.2.1, fun k hk => ?_⟩, ⟨fun t k j => ?_, fun t i s a b => ?_, g5⟩⟩
  · rw [g4 _ _ _ (by omega), xA_sA, if_neg (by omega), xA_sA, if_neg (by omega), xA_sA, if_neg (by omega), xA_sA, if_pos ⟨rfl, rfl, rfl⟩]; exact h.2.2.1
  · rw [g4 _ _ _ (by omega), xA_sA, if_neg (by omega), xA_sA, if_neg (by omega), xA_sA, if_pos ⟨rfl, rfl, rfl⟩]; exact h.2.2.2.1
  · rw [g4 _ _ _ (by omega), xA_sA, if_neg (by omega), xA_sA, if_pos ⟨rfl, rfl, rfl⟩]; exact h.2.2.2.2.1
  · rw [g4 _ _ _ (by omega), xA_sA, if_pos ⟨rfl, rfl, rfl⟩]; exact h.2.2.2.2.2.1
  · have := h.2.2.2.2.2.2.1
    rw [g2 k (by omega), xA_sA, if_neg (by omega), xA_sA, if_neg (by omega), xA_sA, if_neg (by omega), xA_sA, if_neg (by omega)]; exact h.2.2.2.2.2.2.2.2 k hk
  · rw [g3, xF_sA, xF_sA, xF_sA, xF_sA]
  · rw [g4 t i s b, xA_sA, if_neg (by omega), xA_sA, if_neg (by omega), xA_sA, if_neg (by omega), xA_sA, if_neg (by omega)]
theorem J_serve {n d s w0 : Nat} {l : LW} (hn : 100 ≤ n) (hl : lw_ok l) (hd : d < 4) (hs : s < 3) (hw : w0 ≤ 1100) : ∀ (m r k k' : Nat) (x z : am_X) (P : PS), cP x 12 P → cL x 0 l → mQ z 4 P → mL z l → r + m = 10 → m < k → m < k' → ∃ v x' z', b_X8_weeksOfServing_46 n k 0 (nI d) (nI s) (nI (w0 + r)) (nI r) x = some (v, x') ∧ b_X9_soonBy_29 n k' 0 (nI d) (nI s) (nI w0) (nI r) z = some (v, z') ∧ fP 12 x x' ∧ (∃ Q, cP x' 12 Q) ∧ fQ 4 z z' := by
  intro m
  induction m with
  | zero =>
    intro r k k' x z P hP hL hQ hM hr hk hk'
    obtain ⟨k, rfl⟩ : ∃ e, k = e + 1 := ⟨k - 1, by omega⟩
    obtain ⟨k', rfl⟩ : ∃ e, k' = e + 1 := ⟨k' - 1, by omega⟩
    refine ⟨-1, x, z, ?_, ?_, fP.rf, ⟨P, hP⟩, fQ.rf⟩
    · rw [b_X8_weeksOfServing_46, if_pos (show (9 : Int32) < nI r from (nI_ltI (a := 9) (by omega) (by omega)).mpr (by omega))]
    · rw [b_X9_soonBy_29, if_pos (show (9 : Int32) < nI r from (nI_ltI (a := 9) (by omega) (by omega)).mpr (by omega))]
  | succ m ih =>
    intro r k k' x z P hP hL hQ hM hr hk hk'
    obtain ⟨k, rfl⟩ : ∃ e, k = e + 1 := ⟨k - 1, by omega⟩
    obtain ⟨k', rfl⟩ : ∃ e, k' = e + 1 := ⟨k' - 1, by omega⟩
    have ht := (hl.1 d hd).1
    have h9 : ¬ (9 : Int32) < nI r := fun e => by
      have := (nI_ltI (a := 9) (by omega) (by omega)).mp e
      omega
    have ma := M_mayDo (n := n) (p := 4) (a := 10 + d) hn (by omega) hQ hM hl (Or.inr (Or.inl ⟨by omega, by omega⟩))
    have hmay : pMay l (10 + d) P = pCv l d (l.1 d) 0 P := by
      unfold pMay
      rw [if_neg (by omega), if_pos ⟨by omega, by omega⟩, show 10 + d - 10 = d from by omega]
    rw [hmay] at ma
    rw [b_X8_weeksOfServing_46, if_neg h9, S_termOf hL hd, ob, S_isCovered hn hP hL hl hd ht.1 ht.2 (by decide) (by decide), ob, show (0 : Int32).toInt = 0 from rfl]
    rw [b_X9_soonBy_29, if_neg h9, show (10 : Int32) + nI d = nI (10 + d) from nI_add .., show (4 : Int32) = nI 4 from rfl, ma, ob]
    cases hcv : pCv l d (l.1 d) 0 P with
    | true =>
      exact ⟨nI r, x, z, by rw [if_pos rfl, if_neg n10], by rw [if_pos rfl, if_neg n10], fP.rf, ⟨P, hP⟩, fQ.rf⟩
    | false =>
      rw [if_neg (show ¬ false = true from Bool.false_ne_true), if_pos rfl, if_pos rfl]
      dsimp only
      obtain ⟨x1, g1, g2, g3⟩ := S_does (n := n) (a := s) (w := w0 + r) hn hP hL hl (Or.inl hs) (by omega)
      obtain ⟨x2, g4, g5, g6⟩ := S_enter (n := n) (w := w0 + r + 1) hn g2 (g3.cL hL) hl.2 (by omega)
      obtain ⟨z1, k1, k2, k3⟩ := M_serve (n := n) (s := s) (w := w0 + r) hn (by omega) hQ hs (by omega)
      obtain ⟨z2, k4, k5, k6⟩ := M_lapseP (n := n) (w := w0 + r + 1) hn (by omega) k2 (k3.mL hM) hl.2 (by omega)
      have hq : mQ z2 4 (pEnt l (w0 + r + 1) (pDo l s (w0 + r) P)) := by
        refine mQ_core k5 rfl ?_ ?_ ?_
        · show pG P + nI (pGet l s P) = pG P
          unfold pGet
          rw [if_neg (by omega)]
          exact Int32.add_zero _
        · show pOwe l s P = pO P - 1
          unfold pOwe
          rw [if_pos hs]
        · show cr_lap _ (pCrd l s (w0 + r) P) = cr_lap _ _
          unfold pCrd
          rw [if_pos hs]
      obtain ⟨v, x', z', i1, i2, i3, i4, i5⟩ := ih (r + 1) k k' x2 z2 _ g5 (g6.cL (g3.cL hL)) hq (k6.fQ.mL (k3.mL hM)) (by omega) (by omega) (by omega)
      refine ⟨v, x', z', ?_, ?_, g3.tr (g6.tr i3), i4, k3.tr (k6.fQ.tr i5)⟩
      · rw [g1, ob, show nI (w0 + r) + (1 : Int32) = nI (w0 + r + 1) from nI_add .., g4, ob, show nI r + (1 : Int32) = nI (r + 1) from nI_add ..]
        exact i1
      · rw [nI_add, k1, ob, show nI (w0 + r) + (1 : Int32) = nI (w0 + r + 1) from nI_add .., k4, ob, show nI r + (1 : Int32) = nI (r + 1) from nI_add ..]
        exact i2
theorem J_soon1 {n d s w j : Nat} {l : LW} {x z : am_X} {P : PS} (hn : 100 ≤ n) (hl : lw_ok l) (hd : d < 4) (hs : s < 3) (hw : w ≤ 1000) (hj : j < 4) (hP : cP x (4 * 0 + j) P) (hL : cL x 0 l) (ew : xF x 3 2 0 = nI w) (hQ : mP z j P) (hM : mL z l) (fw : xF z 32 6 0 = nI w) (hlap : cr_lap ((w : Int) - (l.2.2.2 : Int)) (pC P) = pC P) : ∃ v x' z', f_X8_weeksOfServing n 0 (4 * 0 + j) (nI d) (nI s) x = some (v, x') ∧ f_X9_soonBy n 0 (nI j) (nI d) (nI s) z = some (v, z') ∧ fP 12 x x' ∧ (∃ Q, cP x' 12 Q) ∧ fQ 4 z z' := by
  have hA := hQ.2.1
  obtain ⟨x1, g1, g2, g3⟩ := S_copyP (n := n) (i := 12) hn (by omega) hP
  obtain ⟨z1, k1, k2, k3⟩ := M_copy (n := n) (p := j) (q := 4) hn (by omega) (by omega) (by omega) hQ.1
  obtain ⟨z2, k4, k5, k6⟩ := M_lapseP (n := n) (w := w + pA P) hn (by omega) k2 (k3.mL hM) hl.2 (by omega)
  unfold f_X8_weeksOfServing f_X9_soonBy
  rw [g1, ob, g2.2.2.2.2.1, ew, if_pos (am_inB_nI (by omega) (by omega)), nI_c (by omega), hQ.2.2.2.1, fw, nI_add, show (4 : Int32) = nI 4 from rfl, k1, ob, k4, ob]
  by_cases e : pA P = 0
  · rw [if_pos ((z0 (by omega)).mpr e)]
    unfold b_X8_weeksOfServing_43
    rw [e] at k5 ⊢
    have hq : mQ z2 4 P := mQ_core k5 rfl rfl rfl hlap.symm
    obtain ⟨v, x', z', i1, i2, i3, i4, i5⟩ := J_serve (n := n) (w0 := w) hn hl hd hs (by omega) 10 0 n n x1 z2 P g2 (g3.cL hL) hq (k6.fQ.mL (k3.mL hM)) (by omega) (by omega) (by omega)
    exact ⟨v, x', z', i1, i2, g3.tr i3, i4, k3.tr (k6.fQ.tr i5)⟩
  · have e1 : pA P = 1 := by omega
    rw [if_neg (fun w => e ((z0 (by omega)).mp w)), show nI w + (1 : Int32) = nI (w + 1) from nI_add ..]
    obtain ⟨x2, g4, g5, g6⟩ := S_enter (n := n) (w := w + 1) hn g2 (g3.cL hL) hl.2 (by omega)
    rw [g4, ob]
    unfold b_X8_weeksOfServing_43
    rw [e1] at k5 ⊢
    have hq : mQ z2 4 (pEnt l (w + 1) P) := mQ_core k5 rfl rfl rfl rfl
    obtain ⟨v, x', z', i1, i2, i3, i4, i5⟩ := J_serve (n := n) (w0 := w + 1) hn hl hd hs (by omega) 10 0 n n x2 z2 _ g5 (g6.cL (g3.cL hL)) hq (k6.fQ.mL (k3.mL hM)) (by omega) (by omega) (by omega)
    exact ⟨v, x', z', i1, i2, g3.tr (g6.tr i3), i4, k3.tr (k6.fQ.tr i5)⟩
theorem J_soon_lp {n d w j : Nat} {l : LW} {P : PS} (hn : 100 ≤ n) (hl : lw_ok l) (hd : d < 4) (hw : w ≤ 1000) (hj : j < 4) (hlap : cr_lap ((w : Int) - (l.2.2.2 : Int)) (pC P) = pC P) : ∀ (m s k k' : Nat) (few : Int32) (x z : am_X), cP x (4 * 0 + j) P → cL x 0 l → xF x 3 2 0 = nI w → mP z j P → mL z l → xF z 32 6 0 = nI w → (∀ i, xK x i < 5) → s + m = 3 → m < k → m < k' → ∃ v x' z', b_X8_soon_43 n k 0 (nI j) (nI d) few (nI s) x = some (v, x') ∧ b_X9_soonNow_5 n k' 0 (nI j) (nI d) few (nI s) z = some (v, z') ∧ fP 12 x x' ∧ (∀ i, xK x' i < 5) ∧ fQ 4 z z' := by
  intro m
  induction m with
  | zero =>
    intro s k k' few x z hP hL ew hQ hM fw hK hr hk hk'
    obtain ⟨k, rfl⟩ : ∃ e, k = e + 1 := ⟨k - 1, by omega⟩
    obtain ⟨k', rfl⟩ : ∃ e, k' = e + 1 := ⟨k' - 1, by omega⟩
    refine ⟨few, x, z, ?_, ?_, fP.rf, hK, fQ.rf⟩
    · rw [b_X8_soon_43, if_pos (show (3 : Int32) ≤ nI s from nI_le (a := 3) (by omega) (by omega))]
    · rw [b_X9_soonNow_5, if_pos (show (3 : Int32) ≤ nI s from nI_le (a := 3) (by omega) (by omega))]
  | succ m ih =>
    intro s k k' few x z hP hL ew hQ hM fw hK hr hk hk'
    obtain ⟨k, rfl⟩ : ∃ e, k = e + 1 := ⟨k - 1, by omega⟩
    obtain ⟨k', rfl⟩ : ∃ e, k' = e + 1 := ⟨k' - 1, by omega⟩
    have h8 := (hl.1 d hd).2.2
    have h3 : ¬ (3 : Int32) ≤ nI s := nI_ge (b := 3) (by omega) (by omega)
    rw [b_X8_soon_43, if_neg h3, S_sortsOf hL hd, ob, b_X9_soonNow_5, if_neg h3, if_pos (am_inB_nI (by omega) (by omega)), nI_c (by omega), (hM.1 d hd).2.2, M_has z h8 (by omega), ob]
    have e1 : nI s + (1 : Int32) = nI (s + 1) := nI_add ..
    cases hb : (l.2.2.1 d).testBit s with
    | false =>
      rw [if_pos ((cr_bit _ h8 s (by omega)).mpr hb), if_neg (show ¬ false = true from Bool.false_ne_true), if_pos rfl]
      unfold b_X8_soon_106 b_X9_soonNow_37 b_X9_soonNow_61 b_X9_soonNow_62
      rw [if_pos rfl, e1]
      exact ih (s + 1) k k' few x z hP hL ew hQ hM fw hK (by omega) (by omega) (by omega)
    | true =>
      rw [if_neg (show ¬ _ from fun e => by rw [(cr_bit _ h8 s (by omega)).mp e] at hb; cases hb), if_pos rfl, if_neg n10, S_one (by omega), ob]
      dsimp only
      obtain ⟨v, x1, z1, i1, i2, i3, ⟨Q, i4⟩, i5⟩ := J_soon1 (n := n) (s := s) hn hl hd (by omega) hw hj hP hL ew hQ hM fw hlap
      rw [i1, ob, i2, ob]
      have hP1 := i3.cP (show 4 * 0 + j ≠ 12 by omega) hP
      have hL1 := i3.cL hL
      have ew1 : xF x1 3 2 0 = nI w := by rw [i3.1 _ _ _ (by omega)]; exact ew
      have hQ1 := i5.mP (show j ≠ 4 by omega) hQ
      have hM1 := i5.mL hM
      have fw1 : xF z1 32 6 0 = nI w := by rw [i5.1]; exact fw
      have hK1 := fP_K i3 i4 hK
      unfold b_X9_soonNow_37 b_X9_soonNow_61 b_X9_soonNow_56 b_X9_soonNow_62 b_X8_soon_99 b_X8_soon_104 b_X8_soon_105 b_X8_soon_106
      rw [e1]
      obtain ⟨v1, x2, z2, m1, m2, m3, m4, m5⟩ := ih (s + 1) k k' few x1 z1 hP1 hL1 ew1 hQ1 hM1 fw1 hK1 (by omega) (by omega) (by omega)
      obtain ⟨v2, x3, z3, l1, l2, l3, l4, l5⟩ := ih (s + 1) k k' v x1 z1 hP1 hL1 ew1 hQ1 hM1 fw1 hK1 (by omega) (by omega) (by omega)
      by_cases a1 : few = -1
      · rw [if_pos a1]
        refine ⟨v2, x3, z3, l1, ?_, i3.tr l3, l4, i5.tr l5⟩
        by_cases a2 : v = -1
        · rw [if_pos a2, a1, ← a2]; exact l2
        · rw [if_neg a2, if_pos a1]; exact l2
      · rw [if_neg a1]
        by_cases a2 : v = -1
        · rw [if_pos a2, if_pos a2]
          exact ⟨v1, x2, z2, m1, m2, i3.tr m3, m4, i5.tr m5⟩
        · rw [if_neg a2, if_neg a2, if_neg a1]
          by_cases a3 : few ≤ v
          · rw [if_pos a3, if_pos a3]
            exact ⟨v1, x2, z2, m1, m2, i3.tr m3, m4, i5.tr m5⟩
          · rw [if_neg a3, if_neg a3]
            exact ⟨v2, x3, z3, l1, l2, i3.tr l3, l4, i5.tr l5⟩
section O9
variable {n tm : Nat} {x z : am_X}
/-- soon of one that is here and of a DEED -/
theorem J_soon {lr g a : Nat} {l : LW} {N w : Nat} {T : Nat → PS} {pi Np wp : Nat} {Tp : Nat → PS} {ls : List Nat} {bg : Nat} {tl : List Nat} {sw : Nat} {B : PS} {j d : Nat} (hn : 100 ≤ n) (hk : ∀ i, xK x i < 5) (h1 : RC x lr g a l N w T pi Np wp Tp ls bg tl sw B) (h2 : RM z lr g a l N w T pi Np wp Tp ls bg tl sw B) (h3 : RI tm lr g a l N w T pi Np wp Tp ls bg tl sw B) (hj : j < N) (hz : pZ (T j) = 0) (hd : d < 4) : ∃ v x' z', f_X8_soon n 0 (nI j) (nI d) x = some (v, x') ∧ f_X9_soonTold n 0 (nI j) (nI d) z = some (v, z') ∧ eC x x' ∧ fQ 4 z z' := by
  have hc := h1.2.2.1
  have hm := h2.2.2.1
  have h4 := hc.1
  have hl := RI_law h3 (by omega)
  have hP := hc.2.2.2 j (by omega)
  have hQ := hm.2.2.2 j hj
  have hhr : hr N T (nI j) = true := by
    unfold hr
    rw [am_inB_nI hj (by omega), nI_c (by omega), hz]; rfl
  have ho := hP.1.2.1
  unfold f_X8_soon f_X9_soonTold
  rw [S_isHere hc, ob, if_pos hhr, if_neg n10, S_isDeed x hd, ob, if_pos n10, S_one (by omega), ob, hP.2.2.2.1, if_pos (am_inB_nI (by omega) (by omega)), nI_c (by omega), hQ.1.2.2.2.2.1]
  by_cases e : pO (T j) = 0
  · rw [e, if_pos (show nI 0 ≤ 0 from by decide), if_pos (show nI 0 ≤ 0 from by decide)]
    unfold f_X9_soonNow
    obtain ⟨v, x', z', i1, i2, i3, i4, i5⟩ := J_soon_lp (n := n) (d := d) (j := j) (w := w) (P := T j) hn hl hd (by have := h3.1; omega) (by omega) (h3.2.2.2.2.2.2.2.2.2.1 j hj) 3 0 n n (-1) x z hP h1.2.1 hc.2.2.1 hQ h2.2.1 hm.2.2.1 hk (by omega) (by omega) (by omega)
    refine ⟨v, x', z', i1, ?_, fP_eC' i3 (by omega) i4, i5⟩
    rw [show b_X9_soonNow_5 n n 0 (nI j) (nI d) (-1) 0 z = some (v, z') from i2, ob]
  · have e' : ¬ nI (pO (T j)) ≤ 0 := fun w => by
      have := (nI_leI (b := 0) (by omega) (by omega)).mp w
      omega
    rw [if_neg e', if_neg e']
    exact ⟨-103, x, z, rfl, rfl, eC.rf, fQ.rf⟩
theorem O_soon (hn : 100 ≤ n) (ht : tm < 1000) (hk : ∀ i, xK x i < 5) (h : Rel tm x z) (v w' : Int32) : Ok tm (f_X8_soon n 0 v w' x) (f_X9_soon n 0 v w' z) := by
  have h0 := h
  obtain ⟨lr, g, a, l, N, w, T, pi, Np, wp, Tp, ls, bg, tl, sw, B, h1, h2, h3⟩ := h
  have hc := h1.2.2.1
  have hm := h2.2.2.1
  have h4 := hc.1
  unfold f_X9_soon
  rw [M_isPerson hm, ob]
  cases hb : hr N T v with
  | false =>
    refine Ok.same0 (v := -101) h0 hk ht ?_ rfl
    unfold f_X8_soon
    rw [S_isHere hc, ob, hb]; rfl
  | true =>
    have hb' := hb
    obtain ⟨j, hj, rfl, hz⟩ := hr_of h4 hb
    rw [if_pos rfl, if_neg n10, M_isDeedB, ob]
    cases hr' : rg 0 3 w' with
    | false =>
      refine Ok.same0 (v := -101) h0 hk ht ?_ rfl
      unfold f_X8_soon
      rw [S_isHere hc, ob, hb', if_pos rfl, if_neg n10, S_isDeedB, ob, hr']; rfl
    | true =>
      obtain ⟨d, _, hd, rfl⟩ := rg_of (by omega) hr'
      rw [if_pos rfl, if_neg n10]
      obtain ⟨v, x', z', i1, i2, i3, i4⟩ := J_soon (n := n) hn hk h1 h2 h3 hj hz (show d < 4 by omega)
      exact Ok.same (v := v) h0 hk ht i1 (by rw [i2, ob]) i3 i4.eM
end O9
