/-! kept -/
def aN (f : Nat → Bool) : Nat → Nat → Bool
  | _, 0 => false
  | j, m + 1 => f j || aN f (j + 1) m
def fcv (l : LW) (w d t : Nat) (T : Nat → PS) (i : Nat) : Bool := decide (pZ (T i) = 0) && pCv l d t (((w + pA (T i) : Nat) : Int) - (l.2.2.2 : Int)) (T i)
theorem S_cov_lp {n d t N w : Nat} {l : LW} {T : Nat → PS} {x : am_X} (hn : 100 ≤ n) (hl : lw_ok l) (hd : d < 4) (h1 : 1 ≤ t) (h9 : t ≤ 9) (hw : w ≤ 1000) (hc : cT x 0 N w T) (hL : cL x 0 l) : ∀ (m j k : Nat), j + m = N → m < k → b_X7_someoneCovered_3 n k 0 (nI d) (nI t) 0 (nI j) x = some ((if aN (fcv l w d t T) j m = true then 1 else 0), x) := by
  have h4 := hc.1
  intro m
  induction m with
  | zero =>
    intro j k hj hk
    obtain ⟨k, rfl⟩ : ∃ e, k = e + 1 := ⟨k - 1, by omega⟩
    rw [b_X7_someoneCovered_3, hc.2.1, if_pos (nI_le (by omega) (by omega))]
    rfl
  | succ m ih =>
    intro j k hj hk
    obtain ⟨k, rfl⟩ : ∃ e, k = e + 1 := ⟨k - 1, by omega⟩
    have hP := hc.2.2.2 j (by omega)
    have hA := hP.1.2.2.1
    have hZ := hP.1.2.2.2
    have hL9 := hl.2
    rw [b_X7_someoneCovered_3, hc.2.1, if_neg (nI_ge (by omega) (by omega)), S_one (by omega), ob, hP.2.2.2.2.1]
    have key : ∀ (wk : Nat), wk = w + pA (T j) → b_X7_someoneCovered_42 n (b_X7_someoneCovered_3 n k) 0 (nI d) (nI t) 0 (nI j) (4 * 0 + j) 0 (nI wk) x = some ((if aN (fcv l w d t T) j (m + 1) = true then 1 else 0), x) := by
      intro wk hwk
      have hi : (nI wk - nI l.2.2.2).toInt = ((w + pA (T j) : Nat) : Int) - (l.2.2.2 : Int) := by rw [lap_int (by omega) hL9, hwk]
      unfold b_X7_someoneCovered_42 f_X3_firstThatCounts
      rw [ob]
      dsimp only
      rw [hP.2.2.2.2.2.1, hL.2]
      unfold b_X7_someoneCovered_70
      rw [show nI j + (1 : Int32) = nI (j + 1) from nI_add .., ih (j + 1) k (by omega) (by omega)]
      show _ = some ((if (fcv l w d t T j || aN (fcv l w d t T) (j + 1) m) = true then 1 else 0), x)
      have ef : fcv l w d t T j = (decide (pZ (T j) = 0) && pCv l d t (((w + pA (T j) : Nat) : Int) - (l.2.2.2 : Int)) (T j)) := rfl
      by_cases e : pZ (T j) = 0
      · rw [if_neg (fun q => q ((z0 (by omega)).mpr e)), S_isCovered hn hP hL hl hd h1 h9 (by rw [hi]; omega) (by rw [hi]; omega), ob, hi]
        cases hcv : pCv l d t (((w + pA (T j) : Nat) : Int) - (l.2.2.2 : Int)) (T j) with
        | false =>
          rw [if_neg (show ¬ false = true from Bool.false_ne_true), if_pos rfl, ef, hcv, Bool.and_false, Bool.false_or]
          exact ih (j + 1) k (by omega) (by omega)
        | true => rw [if_pos rfl, if_neg n10, ef, hcv, Bool.and_true, decide_eq_true e, Bool.true_or, if_pos rfl]
      · rw [if_pos (fun q => e ((z0 (by omega)).mp q)), ef, decide_eq_false e, Bool.false_and, Bool.false_or]
    by_cases e : pA (T j) = 0
    · rw [if_pos ((z0 (by omega)).mpr e)]
      dsimp only
      rw [hc.2.2.1]
      exact key w (by omega)
    · rw [if_neg (fun q => e ((z0 (by omega)).mp q))]
      dsimp only
      rw [hc.2.2.1, show nI w + (1 : Int32) = nI (w + 1) from nI_add ..]
      exact key (w + 1) (by omega)
theorem pCv_lap {l : LW} {d t w : Nat} {P : PS} : pCv l d t 0 (pLap l w P) = pCv l d t ((w : Int) - (l.2.2.2 : Int)) P := by
  unfold pCv pLap
  rw [cr_lap_0]
theorem M_cov_lp {n d t N w : Nat} {l : LW} {T : Nat → PS} (hn : 100 ≤ n) (hl : lw_ok l) (hd : d < 4) (h1 : 1 ≤ t) (h9 : t ≤ 9) (hw : w ≤ 1000) : ∀ (m j k : Nat) (b : Bool) (z : am_X), mT z N w T → mL z l → j + m = N → m < k → ∃ z', b_X9_canAny_5 n k 0 (nI d) (nI t) (if b = true then 1 else 0) (nI j) z = some ((if (b || aN (fcv l w d t T) j m) = true then 1 else 0), z') ∧ fQ 4 z z' := by
  intro m
  induction m with
  | zero =>
    intro j k b z hm hM hj hk
    have h4 := hm.1
    obtain ⟨k, rfl⟩ : ∃ e, k = e + 1 := ⟨k - 1, by omega⟩
    refine ⟨z, ?_, fQ.rf⟩
    rw [b_X9_canAny_5, hm.2.1, if_pos (nI_le (by omega) (by omega)), if_pos (bz_if _)]
    show _ = some ((if (b || false) = true then 1 else 0), z)
    rw [Bool.or_false]
  | succ m ih =>
    intro j k b z hm hM hj hk
    have h4 := hm.1
    obtain ⟨k, rfl⟩ : ∃ e, k = e + 1 := ⟨k - 1, by omega⟩
    have hQ := hm.2.2.2 j (by omega)
    have hA := hQ.2.1
    have hZ := hQ.2.2.1
    obtain ⟨z1, k1, k2, k3⟩ := M_copy (n := n) (p := j) (q := 4) hn (by omega) (by omega) (by omega) hQ.1
    obtain ⟨z2, k4, k5, k6⟩ := M_lapseP (n := n) (w := w + pA (T j)) hn (by omega) k2 (k3.mL hM) hl.2 (by omega)
    have f2 := k3.tr k6.fQ
    have hm2 := f2.eM.mT hm
    have hM2 := f2.mL hM
    have cv := M_isCovered (n := n) (p := 4) (d := d) (t := t) hn (by omega) k5 hM2 hl hd h1 h9
    rw [pCv_lap] at cv
    have ef : fcv l w d t T j = (decide (pZ (T j) = 0) && pCv l d t (((w + pA (T j) : Nat) : Int) - (l.2.2.2 : Int)) (T j)) := rfl
    have i5 : am_inB (nI j) 5 = true := am_inB_nI (by omega) (by omega)
    rw [b_X9_canAny_5, hm.2.1, if_neg (nI_ge (by omega) (by omega)), show (4 : Int32) = nI 4 from rfl, k1, ob, if_pos i5, nI_c (by omega), k3.1, hm.2.2.1, k3.2.1 _ _ _ (by omega) (by omega), hQ.2.2.2.1, nI_add, k4, ob]
    unfold b_X9_canAny_62 b_X9_canAny_66 b_X9_canAny_67
    rw [show nI j + (1 : Int32) = nI (j + 1) from nI_add .., (hm2.2.2.2 j (by omega)).2.2.2.2]
    obtain ⟨z3, t1, t2⟩ := ih (j + 1) k true z2 hm2 hM2 (by omega) (by omega)
    obtain ⟨z4, u1, u2⟩ := ih (j + 1) k false z2 hm2 hM2 (by omega) (by omega)
    rw [if_pos rfl] at t1
    rw [if_neg (show ¬ false = true from Bool.false_ne_true)] at u1
    show ∃ z', _ = some ((if (b || (fcv l w d t T j || aN (fcv l w d t T) (j + 1) m)) = true then 1 else 0), z') ∧ _
    cases b with
    | true =>
      refine ⟨z3, ?_, f2.tr t2⟩
      rw [if_pos rfl, if_pos n10, t1]
      rfl
    | false =>
      rw [if_neg (show ¬ false = true from Bool.false_ne_true), if_neg (fun q => q rfl), if_pos i5]
      by_cases e : pZ (T j) = 0
      · rw [if_neg (fun q => q ((z0 (by omega)).mpr e)), cv, ob]
        cases hcv : pCv l d t (((w + pA (T j) : Nat) : Int) - (l.2.2.2 : Int)) (T j) with
        | false =>
          refine ⟨z4, ?_, f2.tr u2⟩
          rw [if_neg (show ¬ false = true from Bool.false_ne_true), if_pos rfl, ef, hcv, Bool.and_false, Bool.false_or, u1]
        | true =>
          refine ⟨z3, ?_, f2.tr t2⟩
          rw [if_pos rfl, if_neg n10, ef, hcv, decide_eq_true e, t1]
          rfl
      · refine ⟨z4, ?_, f2.tr u2⟩
        rw [if_pos (fun q => e ((z0 (by omega)).mp q)), ef, decide_eq_false e, Bool.false_and, Bool.false_or, u1]
theorem J_kept_lp {n d N w : Nat} {l : LW} {T : Nat → PS} {x : am_X} (hn : 100 ≤ n) (hl : lw_ok l) (hd : d < 4) (hw : w ≤ 1000) (hc : cT x 0 N w T) (hL : cL x 0 l) : ∀ (m t k k' : Nat) (z : am_X), mT z N w T → mL z l → 1 ≤ t → t + m = 10 → m < k → m < k' → ∃ v z', b_X8_kept_22 n k 0 (nI d) (nI t) x = some (v, x) ∧ b_X9_keptNow_2 n k' 0 (nI d) (nI t) z = some (v, z') ∧ fQ 4 z z' := by
  intro m
  induction m with
  | zero =>
    intro t k k' z hm hM h1 hr hk hk'
    obtain ⟨k, rfl⟩ : ∃ e, k = e + 1 := ⟨k - 1, by omega⟩
    obtain ⟨k', rfl⟩ : ∃ e, k' = e + 1 := ⟨k' - 1, by omega⟩
    have h9 : (9 : Int32) < nI t := (nI_ltI (a := 9) (by omega) (by omega)).mpr (by omega)
    exact ⟨-1, z, by rw [b_X8_kept_22, if_pos h9], by rw [b_X9_keptNow_2, if_pos h9], fQ.rf⟩
  | succ m ih =>
    intro t k k' z hm hM h1 hr hk hk'
    obtain ⟨k, rfl⟩ : ∃ e, k = e + 1 := ⟨k - 1, by omega⟩
    obtain ⟨k', rfl⟩ : ∃ e, k' = e + 1 := ⟨k' - 1, by omega⟩
    have h4 := hm.1
    have h9 : ¬ (9 : Int32) < nI t := fun e => by
      have := (nI_ltI (a := 9) (by omega) (by omega)).mp e
      omega
    obtain ⟨z1, k1, k2⟩ := M_cov_lp (n := n) (d := d) (t := t) (T := T) hn hl hd h1 (by omega) hw N 0 n false z hm hM (by omega) (by omega)
    have k1' : f_X9_canAny n 0 (nI d) (nI t) z = some ((if (false || aN (fcv l w d t T) 0 N) = true then 1 else 0), z1) := k1
    rw [Bool.false_or] at k1'
    have s1 : f_X7_someoneCovered n 0 (nI d) (nI t) 0 x = some ((if aN (fcv l w d t T) 0 N = true then 1 else 0), x) := S_cov_lp (n := n) hn hl hd h1 (by omega) hw hc hL N 0 n (by omega) (by omega)
    rw [b_X8_kept_22, if_neg h9, s1, ob, b_X9_keptNow_2, if_neg h9, k1', ob]
    cases aN (fcv l w d t T) 0 N with
    | false => exact ⟨nI t, z1, by rw [if_neg (show ¬ false = true from Bool.false_ne_true), if_neg (fun q => q rfl)], by rw [if_neg (show ¬ false = true from Bool.false_ne_true), if_neg (fun q => q rfl)], k2⟩
    | true =>
      rw [if_pos rfl, if_pos n10, if_pos n10, show nI t + (1 : Int32) = nI (t + 1) from nI_add ..]
      obtain ⟨v, z', i1, i2, i3⟩ := ih (t + 1) k k' z1 (k2.eM.mT hm) (k2.mL hM) (by omega) (by omega) (by omega) (by omega)
      exact ⟨v, z', i1, i2, k2.tr i3⟩
section O10
variable {n tm : Nat} {x z : am_X}
theorem J_kept {lr g a : Nat} {l : LW} {N w : Nat} {T : Nat → PS} {pi Np wp : Nat} {Tp : Nat → PS} {ls : List Nat} {bg : Nat} {tl : List Nat} {sw : Nat} {B : PS} {d : Nat} (hn : 100 ≤ n) (h1 : RC x lr g a l N w T pi Np wp Tp ls bg tl sw B) (h2 : RM z lr g a l N w T pi Np wp Tp ls bg tl sw B) (h3 : RI tm lr g a l N w T pi Np wp Tp ls bg tl sw B) (hd : d < 4) (hlr : lr ≠ 0) : ∃ v z', f_X8_kept n 0 (nI d) x = some (v, x) ∧ f_X9_keptNow n 0 (nI d) z = some (v, z') ∧ fQ 4 z z' := by
  have hl : lw_ok l := h3.2.2.2.2.1.resolve_left hlr
  obtain ⟨v, z', i1, i2, i3⟩ := J_kept_lp (n := n) (d := d) hn hl hd (by have := h3.1; omega) h1.2.2.1 h1.2.1 9 1 n n z h2.2.2.1 h2.2.1 (by omega) (by omega) (by omega) (by omega)
  refine ⟨v, z', ?_, i2, i3⟩
  unfold f_X8_kept
  rw [S_isDeed x hd, ob, if_pos n10, h1.1.1, if_pos (fun e => hlr ((z0 (by have := h3.1; omega)).mp e))]
  exact i1
theorem O_kept (hn : 100 ≤ n) (ht : tm < 1000) (hk : ∀ i, xK x i < 5) (h : Rel tm x z) (v : Int32) : Ok tm (f_X8_kept n 0 v x) (f_X9_kept n 0 v z) := by
  have h0 := h
  obtain ⟨lr, g, a, l, N, w, T, pi, Np, wp, Tp, ls, bg, tl, sw, B, h1, h2, h3⟩ := h
  unfold f_X9_kept
  rw [M_isDeedB, ob]
  cases hr' : rg 0 3 v with
  | false =>
    refine Ok.same0 (v := -101) h0 hk ht ?_ rfl
    unfold f_X8_kept
    rw [S_isDeedB, ob, hr']; rfl
  | true =>
    obtain ⟨d, _, hd, rfl⟩ := rg_of (by omega) hr'
    rw [if_pos rfl, if_pos n10, h2.1.1]
    by_cases e : lr = 0
    · refine Ok.same0 (v := -103) h0 hk ht ?_ ?_
      · unfold f_X8_kept
        rw [S_isDeed x (by omega), ob, if_pos n10, h1.1.1, e, if_neg (fun q => q rfl)]
      · rw [if_pos e, if_pos (show nI 0 = 0 from rfl)]
    · obtain ⟨v, z', i1, i2, i3⟩ := J_kept (n := n) (d := d) hn h1 h2 h3 (by omega) e
      rw [if_neg e, if_neg (show ¬ nI 1 = 0 from n10), i2, ob]
      exact Ok.same (v := v) h0 hk ht i1 rfl eC.rf i3.eM
end O10
