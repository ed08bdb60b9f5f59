/-! years -/
theorem eY.tr {F : Nat → Prop} {FA : Nat → Nat → Prop} {x y z : am_X} (h : eY F FA x y) (h' : eY F FA y z) : eY F FA x z := ⟨fun k o => (h'.1 k o).trans (h.1 k o), fun t q o => (h'.2 t q o).trans (h.2 t q o)⟩
theorem eY.rf {F : Nat → Prop} {FA : Nat → Nat → Prop} {x : am_X} : eY F FA x x := ⟨fun _ _ => rfl, fun _ _ _ => rfl⟩
theorem cT_put {t k N w : Nat} {x : am_X} {T : Nat → PS} {v : Int32} (h : cT x t N w T) (hk : k ≠ 1 ∧ k ≠ 2) : cT (sF x 3 k t v) t N w T := ⟨h.1, by rw [xF_sF, if_neg (by omega)]; exact h.2.1, by rw [xF_sF, if_neg (by omega)]; exact h.2.2.1, fun i hi => by
  have hP := h.2.2.2 i hi
  have f : ∀ t' k' i', t' ≠ 3 → xF (sF x 3 k t v) t' k' i' = xF x t' k' i' := fun t' k' i' o => by rw [xF_sF, if_neg (by omega)]
  exact ⟨hP.1, hP.2.1, (f _ _ _ (by omega)).trans hP.2.2.1, (f _ _ _ (by omega)).trans hP.2.2.2.1, (f _ _ _ (by omega)).trans hP.2.2.2.2.1, (f _ _ _ (by omega)).trans hP.2.2.2.2.2.1, (f _ _ _ (by omega)).trans hP.2.2.2.2.2.2.1, hP.2.2.2.2.2.2.2.1, hP.2.2.2.2.2.2.2.2.1, hP.2.2.2.2.2.2.2.2.2⟩⟩
theorem mT_sL {z : am_X} {N w : Nat} {T : Nat → PS} {k : Nat} {v : Int64} (h : mT z N w T) : mT (sL z k v) N w T := h
theorem mL_sL {z : am_X} {l : LW} {k : Nat} {v : Int64} (h : mL z l) : mL (sL z k v) l := h
def yF (k : Nat) : Prop := k = 6
/-- both towns in the midst of years -/
def yR (x z : am_X) (l : LW) (N w a : Nat) (T : Nat → PS) (c : Int32) : Prop := cT x 2 N w T ∧ mT z N w T ∧ cL x 0 l ∧ mL z l ∧ xF x 3 3 2 = c ∧ xF x 3 4 2 = nI a ∧ xL z 44 = lN a ∧ a < 2147483648
theorem fN_eYy {z z' : am_X} (h : fN z z') : eY yF tA z z' := ⟨fun k o => h.1 32 k 0 (fun e => o e.2.1), fun t q o => h.2.1 t 0 q (fun e => o (Or.inl e)) (fun e => o (Or.inr e))⟩
theorem fT_33 {x x' : am_X} {i : Nat} (h : fP (4 * 2 + i) x x') (k : Nat) : xF x' 3 k 2 = xF x 3 k 2 := h.1 _ _ _ (by omega)
theorem J_live {n N w : Nat} {l : LW} {v1 v4 : Int32} {w1 w3 : Int32} (hn : 100 ≤ n) (hl : lw_ok l) (hw : w < 1900) : ∀ (m j k k' : Nat) (x z : am_X) (T : Nat → PS) (a : Nat) (c : Int32), yR x z l N w a T c → j + m = N → m < k → m < k' → ∃ (x' z' : am_X) (T' : Nat → PS) (a' : Nat) (c' : Int32), (∀ h13, b_X7_live_22 n h13 k 2 v1 0 v4 (nI j) x = ((f_X7_passWeek n 2 0 x').bind fun q2 => h13 2 v1 0 (v4 + (1 : Int32)) q2)) ∧ (∀ h16, b_X9_yearsNow_25 n h16 k' 0 w1 w3 c v4 (nI j) z = ((f_X9_goWeek n 0 z').bind fun q2 => h16 0 w1 w3 c' (v4 + (1 : Int32)) q2)) ∧ yR x' z' l N w a' T' c' ∧ fT 2 x x' ∧ eY yF tA z z' ∧ ∀ i, pK (T' i) = pK (T i) ∧ pZ (T' i) = pZ (T i) := by
  intro m
  induction m with
  | zero =>
    intro j k k' x z T a c h hj hk hk'
    obtain ⟨k, rfl⟩ : ∃ e, k = e + 1 := ⟨k - 1, by omega⟩
    obtain ⟨k', rfl⟩ : ∃ e, k' = e + 1 := ⟨k' - 1, by omega⟩
    have h4 := h.1.1
    refine ⟨x, z, T, a, c, fun h13 => ?_, fun h16 => ?_, h, fT.rf, eY.rf, fun i => ⟨rfl, rfl⟩⟩
    · rw [b_X7_live_22, h.1.2.1, if_pos (nI_le (by omega) (by omega))]
    · rw [b_X9_yearsNow_25, h.2.1.2.1, if_pos (nI_le (by omega) (by omega))]
  | succ m ih =>
    intro j k k' x z T a c h hj hk hk'
    obtain ⟨k, rfl⟩ : ∃ e, k = e + 1 := ⟨k - 1, by omega⟩
    obtain ⟨k', rfl⟩ : ∃ e, k' = e + 1 := ⟨k' - 1, by omega⟩
    have h0 := h
    obtain ⟨hc, hm, hL, hM, e33, e34, e44, ha⟩ := h
    have h4 := hc.1
    have hP := hc.2.2.2 j (by omega)
    have hQ := hm.2.2.2 j (by omega)
    have hZ := hQ.2.2.1
    have ej : nI j + (1 : Int32) = nI (j + 1) := nI_add ..
    have hsd : sd a < 2147483648 := Nat.mod_lt _ (by omega)
    by_cases e : pZ (T j) = 0
    · -- drawn
      have hd12 := Nat.mod_lt (sd a / 65536) (show 0 < 12 by omega)
      have S1 : ∀ h13, b_X7_live_22 n h13 (k + 1) 2 v1 0 v4 (nI j) x = ((f_X7_actByDraw n 2 (4 * 2 + j) 0 x).bind fun q6 => b_X7_live_22 n h13 k 2 v1 0 v4 (nI (j + 1)) q6) := fun h13 => by
        rw [b_X7_live_22, hc.2.1, if_neg (nI_ge (by omega) (by omega)), S_one (by omega), ob, hP.2.2.2.2.2.1, if_neg (fun q => q ((z0 (by omega)).mpr e)), S_one (by omega), ob]
        unfold b_X7_live_54
        rw [ej]
      have M1 : ∀ h16, b_X9_yearsNow_25 n h16 (k' + 1) 0 w1 w3 c v4 (nI j) z = b_X9_yearsNow_60 n h16 (b_X9_yearsNow_25 n h16 k') 0 w1 w3 c v4 (nI j) (nI (dA (sd a / 65536 % 12))) (sL z 44 (lN (sd a))) := fun h16 => by
        rw [b_X9_yearsNow_25, hm.2.1, if_neg (nI_ge (by omega) (by omega)), if_pos (am_inB_nI (by omega) (by omega)), nI_c (by omega), hQ.2.2.2.2, e, if_pos (show ¬ nI 0 = 1 from n01), M_draw ha e44, ob, M_actBy12 hd12, ob]
      have A1 := S_drawn (n := n) (x := x) (t := 2) ha e34
      have A2 := S_actAt12 (n := n) (x := sF x 3 4 2 (nI (sd a))) hd12
      have hact : dA (sd a / 65536 % 12) ≠ 9 → aOk (dA (sd a / 65536 % 12)) := dA_ok
      have hlt : dA (sd a / 65536 % 12) < 100 := by unfold dA; split <;> (try split) <;> (try split) <;> omega
      have hc1 : cT (sF x 3 4 2 (nI (sd a))) 2 N w T := cT_put hc (by omega)
      have f1 : fT 2 x (sF x 3 4 2 (nI (sd a))) := fT.put
      have hL1 : cL (sF x 3 4 2 (nI (sd a))) 0 l := f1.cL hL
      have R1 : yR (sF x 3 4 2 (nI (sd a))) (sL z 44 (lN (sd a))) l N w (sd a) T c := ⟨hc1, mT_sL hm, hL1, mL_sL hM, by rw [xF_sF, if_neg (by omega)]; exact e33, by rw [xF_sF, if_pos ⟨rfl, rfl, rfl⟩], by rw [xL_sL, if_pos rfl], hsd⟩
      have D : f_X7_actByDraw n 2 (4 * 2 + j) 0 x = (if nI (dA (sd a / 65536 % 12)) = (9 : Int32) then some (sF x 3 4 2 (nI (sd a))) else ((f_X6_isFreeTo n (4 * 2 + j) (nI (dA (sd a / 65536 % 12))) 0 (sF x 3 4 2 (nI (sd a)))).bind fun q4 => if q4.1 = 0 then (some q4.2) else ((f_X6_does n (4 * 2 + j) (nI (dA (sd a / 65536 % 12))) 0 (xF q4.2 3 2 2) q4.2).bind fun q6 => (f_X8_isServing n (nI (dA (sd a / 65536 % 12))) q6).bind fun q7 => if q7.1 = 0 then (some (sF q7.2 3 3 2 ((xF q6 3 3 2) + (1 : Int32)))) else (some (sF q7.2 3 3 2 ((xF q6 3 3 2) + (0 : Int32))))))) := by
        unfold f_X7_actByDraw
        rw [A1, ob, A2, ob]
      clear A1 A2
      generalize dA (sd a / 65536 % 12) = act at *
      by_cases e9 : act = 9
      · have n9 : nI act = (9 : Int32) := by rw [e9]; rfl
        obtain ⟨x', z', T', a', c', g1, g2, g3, g4, g5, g6⟩ := ih (j + 1) k k' _ _ T (sd a) c R1 (by omega) (by omega) (by omega)
        refine ⟨x', z', T', a', c', fun h13 => ?_, fun h16 => ?_, g3, f1.tr g4, ?_, g6⟩
        · rw [S1, D, if_pos n9, ob]; exact g1 h13
        · rw [M1]
          unfold b_X9_yearsNow_60 b_X9_yearsNow_117
          rw [if_pos n9, ej]; exact g2 h16
        · exact ⟨fun k o => g5.1 k o, fun t q o => g5.2 t q o⟩
      · have n9 : ¬ nI act = (9 : Int32) := fun q => e9 ((nI_eq (b := 9) (by omega) (by omega)).mp q)
        have ok := hact e9
        have fr := S_isFreeTo (n := n) hn (hc1.2.2.2 j (by omega)) hL1 hl ok
        have mn := M_mayNow (n := n) (z := sL z 44 (lN (sd a))) hn (show j < 4 by omega) hQ (mL_sL hM) hl ok
        rw [if_neg n9, fr, ob] at D
        cases hfr : pFree l act (T j) with
        | false =>
          rw [hfr, if_neg (show ¬ false = true from Bool.false_ne_true), if_pos rfl] at D
          rw [hfr, if_neg (show ¬ false = true from Bool.false_ne_true)] at mn
          obtain ⟨x', z', T', a', c', g1, g2, g3, g4, g5, g6⟩ := ih (j + 1) k k' _ _ T (sd a) c R1 (by omega) (by omega) (by omega)
          refine ⟨x', z', T', a', c', fun h13 => ?_, fun h16 => ?_, g3, f1.tr g4, ?_, g6⟩
          · rw [S1, D, ob]; exact g1 h13
          · rw [M1]
            unfold b_X9_yearsNow_60 b_X9_yearsNow_117
            rw [if_neg n9, mn, ob, if_pos rfl, ej]; exact g2 h16
          · exact ⟨fun k o => g5.1 k o, fun t q o => g5.2 t q o⟩
        | true =>
          rw [hfr, if_pos rfl, if_neg n10] at D
          rw [hfr, if_pos rfl] at mn
          obtain ⟨x1, q1, q2, q3⟩ := S_does (n := n) (a := act) (w := w) hn (hc1.2.2.2 j (by omega)) hL1 hl ok (by omega)
          obtain ⟨z1, k1, k2, k3⟩ := M_actP (n := n) (a := act) (w := w) (z := sL z 44 (lN (sd a))) hn (show j < 4 by omega) hQ (mL_sL hM) hl ok (by omega) (pFree_bare hfr ok)
          have hcT := hc1.set (by omega) q3 q2
          have hmT := (mT_sL (k := 44) (v := lN (sd a)) hm).did k3 k2
          have x33 : xF x1 3 3 2 = c := by rw [fT_33 q3 3, xF_sF, if_neg (by omega)]; exact e33
          have x34 : xF x1 3 4 2 = nI (sd a) := by rw [fT_33 q3 4, xF_sF, if_pos ⟨rfl, rfl, rfl⟩]
          have fN1 : fN (sL z 44 (lN (sd a))) (sA z1 51 0 j (1 : Int32)) := (k3.fN (by omega)).tr (fN.put (by omega) (by omega) (by omega))
          have D' : f_X7_actByDraw n 2 (4 * 2 + j) 0 x = some (sF x1 3 3 2 (c + (if act < 3 then (0 : Int32) else 1))) := by
            rw [D]
            dsimp only
            rw [hc1.2.2.1, q1, ob, S_isServing x1 hlt, ob, x33]
            by_cases e3 : act < 3
            · rw [if_pos e3, if_neg n10, if_pos e3]
            · rw [if_neg e3, if_pos rfl, if_neg e3]
          have R2 : yR (sF x1 3 3 2 (c + (if act < 3 then (0 : Int32) else 1))) (sA z1 51 0 j (1 : Int32)) l N w (sd a) (fun i => if i = j then pDo l act w (T j) else T i) (c + (if act < 3 then (0 : Int32) else 1)) :=
            ⟨cT_put hcT (by omega), hmT, ((q3.fT (t := 2) (by omega)).tr fT.put).cL hL1, fN1.mL (mL_sL hM), by rw [xF_sF, if_pos ⟨rfl, rfl, rfl⟩], by rw [xF_sF, if_neg (by omega)]; exact x34, by
              have : xL (sA z1 51 0 j (1 : Int32)) 44 = xL (sL z 44 (lN (sd a))) 44 := congrFun (congrArg Prod.snd k3.2.2) 44
              rw [this, xL_sL, if_pos rfl], hsd⟩
          obtain ⟨x', z', T', a', c', g1, g2, g3, g4, g5, g6⟩ := ih (j + 1) k k' _ _ _ (sd a) _ R2 (by omega) (by omega) (by omega)
          refine ⟨x', z', T', a', c', fun h13 => ?_, fun h16 => ?_, g3, f1.tr (((q3.fT (t := 2) (by omega)).tr fT.put).tr g4), ?_, fun i => ?_⟩
          · rw [S1, D', ob]; exact g1 h13
          · rw [M1]
            unfold b_X9_yearsNow_60 b_X9_yearsNow_114 b_X9_yearsNow_117
            rw [if_neg n9, mn, ob, if_neg n10]
            dsimp only
            rw [show xF (sL z 44 (lN (sd a))) 32 6 0 = nI w from hm.2.2.1, k1, ob, if_pos (am_inB_nI (by omega) (by omega)), nI_c (by omega), ej]
            by_cases e3 : act < 3
            · rw [if_pos (show nI act < 10 from (nI_ltI (b := 10) (by omega) (by omega)).mpr (by omega))]
              have g2' := g2 h16
              rw [if_pos e3] at g2'
              exact g2'
            · rw [if_neg (show ¬ nI act < 10 from fun q => by
                have := (nI_ltI (b := 10) (by omega) (by omega)).mp q
                unfold aOk at ok
                omega)]
              have g2' := g2 h16
              rw [if_neg e3] at g2'
              exact g2'
          · exact (show eY yF tA z (sA z1 51 0 j (1 : Int32)) from (⟨fun k o => (fN_eYy fN1).1 k o, fun t q o => (fN_eYy fN1).2 t q o⟩)).tr g5
          · have := g6 i
            by_cases ei : i = j
            · rw [if_pos ei] at this
              rw [ei] at this ⊢
              exact this
            · rw [if_neg ei] at this
              exact this
    · have e1 : pZ (T j) = 1 := by omega
      obtain ⟨x', z', T', a', c', g1, g2, g3, g4, g5, g6⟩ := ih (j + 1) k k' x z T a c h0 (by omega) (by omega) (by omega)
      refine ⟨x', z', T', a', c', fun h13 => ?_, fun h16 => ?_, g3, g4, g5, g6⟩
      · rw [b_X7_live_22, hc.2.1, if_neg (nI_ge (by omega) (by omega)), S_one (by omega), ob, hP.2.2.2.2.2.1, if_pos (fun q => e ((z0 (by omega)).mp q))]
        unfold b_X7_live_54
        rw [ej]; exact g1 h13
      · rw [b_X9_yearsNow_25, hm.2.1, if_neg (nI_ge (by omega) (by omega)), if_pos (am_inB_nI (by omega) (by omega)), nI_c (by omega), hQ.2.2.2.2, e1, if_neg (fun q => q rfl)]
        unfold b_X9_yearsNow_60 b_X9_yearsNow_117
        rw [if_pos rfl, ej]; exact g2 h16
theorem S_passWeekK_lp {n t N w : Nat} {l : LW} {T : Nat → PS} (hn : 100 ≤ n) (hl : l.2.2.2 ≤ 9) (hw : w < 100000) : ∀ (m j k : Nat) (x : am_X), cT x t N w (tG (pEnt l w) j T) → cL x 0 l → j + m = N → m < k → ∃ x', b_X7_passWeek_12 n k t 0 (nI j) x = some x' ∧ cT x' t N w (tG (pEnt l w) N T) ∧ fT t x x' ∧ ∀ q, xF x' 3 q t = xF x 3 q t := by
  intro m
  induction m with
  | zero =>
    intro j k x h hL hj hk
    obtain ⟨k, rfl⟩ : ∃ e, k = e + 1 := ⟨k - 1, by omega⟩
    have := h.1
    rw [b_X7_passWeek_12, h.2.1, if_pos (nI_le (by omega) (by omega))]
    have e : j = N := by omega
    subst e
    exact ⟨x, rfl, h, fT.rf, fun _ => rfl⟩
  | succ m ih =>
    intro j k x h hL hj hk
    obtain ⟨k, rfl⟩ : ∃ e, k = e + 1 := ⟨k - 1, by omega⟩
    have h4 := h.1
    rw [b_X7_passWeek_12, h.2.1, if_neg (nI_ge (by omega) (by omega)), S_one (by omega), ob, h.2.2.1]
    obtain ⟨x1, g1, g2, g3⟩ := S_enter (n := n) hn (h.2.2.2 j (by omega)) hL hl hw
    rw [g1, ob, li1, nI_add]
    obtain ⟨x2, k1, k2, k3, k4⟩ := ih (j + 1) k x1 ((h.set (by omega) g3 g2).eq (fun i _ => tG_succ _ _ _ _)) (g3.cL hL) (by omega) (by omega)
    exact ⟨x2, k1, k2, (g3.fT (by omega)).tr k3, fun q => (k4 q).trans (g3.1 _ _ _ (by omega))⟩
theorem S_passWeekK {n t N w : Nat} {l : LW} {T : Nat → PS} {x : am_X} (hn : 100 ≤ n) (hl : l.2.2.2 ≤ 9) (hw : w < 99999) (h : cT x t N w T) (hL : cL x 0 l) : ∃ x', f_X7_passWeek n t 0 x = some x' ∧ cT x' t N (w + 1) (tG (pEnt l (w + 1)) N T) ∧ fT t x x' ∧ ∀ q, q ≠ 2 → xF x' 3 q t = xF x 3 q t := by
  unfold f_X7_passWeek
  have h4 := h.1
  rw [h.2.2.1, li1, nI_add]
  have h2 : cT (sF x 3 2 t (nI (w + 1))) t N (w + 1) (tG (pEnt l (w + 1)) 0 T) := ⟨h.1, by rw [xF_sF, if_neg (by omega)]; exact h.2.1, by rw [xF_sF, if_pos ⟨rfl, rfl, rfl⟩], fun i hi => by
    rw [tG_0]
    have hc := h.2.2.2 i hi
    exact ⟨hc.1, hc.2.1, by rw [xF_sF, if_neg (by omega)]; exact hc.2.2.1, by rw [xF_sF, if_neg (by omega)]; exact hc.2.2.2.1, by rw [xF_sF, if_neg (by omega)]; exact hc.2.2.2.2.1, by rw [xF_sF, if_neg (by omega)]; exact hc.2.2.2.2.2.1, by rw [xF_sF, if_neg (by omega)]; exact hc.2.2.2.2.2.2.1, hc.2.2.2.2.2.2.2⟩⟩
  obtain ⟨x', g1, g2, g3, g4⟩ := S_passWeekK_lp (n := n) hn hl (show w + 1 < 100000 by omega) N 0 n _ h2 (fT.put.cL hL) (by omega) (by omega)
  exact ⟨x', g1, g2, fT.put.tr g3, fun q hq => (g4 q).trans (by rw [xF_sF, if_neg (by omega)])⟩
theorem J_years {n N W : Nat} {l : LW} {w3 : Int32} (hn : 100 ≤ n) (hl : lw_ok l) (hW : W ≤ 60) : ∀ (m r k k' : Nat) (x z : am_X) (T : Nat → PS) (w a : Nat) (c : Int32), yR x z l N w a T c → w + m < 1900 → r + m = W → m < k → m < k' → ∃ (x' z' : am_X) (T' : Nat → PS) (w' a' : Nat) (c' : Int32), b_X7_live_13 n k 2 (nI W) 0 (nI r) x = some x' ∧ b_X9_yearsNow_16 n k' 0 (nI W) w3 c (nI r) z = (if ¬ w3 = 0 then (if ¬ w3 = (1 : Int32) then (if ¬ w3 = (2 : Int32) then (b_X9_yearsNow_171 n 0 (Int64.toInt32 (xL z' 44)) z') else (b_X9_yearsNow_171 n 0 c' z')) else ((f_X9_owesAll n 0 z').bind fun q5 => b_X9_yearsNow_171 n 0 q5.1 q5.2)) else ((f_X9_gotAll n 0 z').bind fun q6 => b_X9_yearsNow_171 n 0 q6.1 q6.2)) ∧ yR x' z' l N w' a' T' c' ∧ fT 2 x x' ∧ eY yF tA z z' ∧ ∀ i, pK (T' i) = pK (T i) ∧ pZ (T' i) = pZ (T i) := by
  intro m
  induction m with
  | zero =>
    intro r k k' x z T w a c h hw hr hk hk'
    obtain ⟨k, rfl⟩ : ∃ e, k = e + 1 := ⟨k - 1, by omega⟩
    obtain ⟨k', rfl⟩ : ∃ e, k' = e + 1 := ⟨k' - 1, by omega⟩
    have e : nI W ≤ nI r := nI_le (by omega) (by omega)
    refine ⟨x, z, T, w, a, c, ?_, ?_, h, fT.rf, eY.rf, fun i => ⟨rfl, rfl⟩⟩
    · rw [b_X7_live_13, if_pos e]
    · rw [b_X9_yearsNow_16, if_pos e]
  | succ m ih =>
    intro r k k' x z T w a c h hw hr hk hk'
    obtain ⟨k, rfl⟩ : ∃ e, k = e + 1 := ⟨k - 1, by omega⟩
    obtain ⟨k', rfl⟩ : ∃ e, k' = e + 1 := ⟨k' - 1, by omega⟩
    have e : ¬ nI W ≤ nI r := nI_ge (by omega) (by omega)
    have h4 := h.1.1
    obtain ⟨x1, z1, T1, a1, c1, g1, g2, g3, g4, g5, g6⟩ := J_live (n := n) (N := N) (w := w) (v1 := nI W) (v4 := nI r) (w1 := nI W) (w3 := w3) hn hl (by omega) N 0 n n x z T a c h (by omega) (by omega) (by omega)
    obtain ⟨hc, hm, hL, hM, e33, e34, e44, ha⟩ := g3
    obtain ⟨x2, p1, p2, p3, p4⟩ := S_passWeekK (n := n) hn hl.2 (show w < 99999 by omega) hc hL
    obtain ⟨z2, o1, o2, o3⟩ := M_goWeek (n := n) hn hl.2 (show w < 99999 by omega) hm hM
    have R : yR x2 z2 l N (w + 1) a1 (tG (pEnt l (w + 1)) N T1) c1 := ⟨p2, o2, p3.cL hL, o3.mL hM, by rw [p4 3 (by omega)]; exact e33, by rw [p4 4 (by omega)]; exact e34, by
      have : xL z2 44 = xL z1 44 := congrFun (congrArg Prod.snd o3.2.2) 44
      rw [this]; exact e44, ha⟩
    obtain ⟨x3, z3, T3, w3', a3, c3, i1, i2, i3, i4, i5, i6⟩ := ih (r + 1) k k' x2 z2 _ (w + 1) a1 c1 R (by omega) (by omega) (by omega) (by omega)
    have er : nI r + (1 : Int32) = nI (r + 1) := nI_add ..
    refine ⟨x3, z3, T3, w3', a3, c3, ?_, ?_, i3, g4.tr (p3.tr i4), g5.tr ((fN_eYy o3).tr i5), fun i => ?_⟩
    · rw [b_X7_live_13, if_neg e]
      have := g1 (b_X7_live_13 n k)
      rw [p1, ob, er, i1] at this
      exact this
    · rw [b_X9_yearsNow_16, if_neg e]
      have := g2 (b_X9_yearsNow_16 n k')
      rw [o1, ob, er, i2] at this
      exact this
    · have q1 := i6 i
      have q2 := g6 i
      have q3 : pK (tG (pEnt l (w + 1)) N T1 i) = pK (T1 i) ∧ pZ (tG (pEnt l (w + 1)) N T1 i) = pZ (T1 i) := by
        unfold tG
        split <;> exact ⟨rfl, rfl⟩
      exact ⟨(q1.1.trans q3.1).trans q2.1, (q1.2.trans q3.2).trans q2.2⟩
