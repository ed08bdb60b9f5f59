/-! ways, in the class; the calls ways and owed -/
def cW (d : Nat) (x x' : am_X) : Prop := (∀ t k i, ¬ (t = 7 ∧ (k = 5 ∨ k = 6) ∧ i = 0) → ¬ ((t = 4 ∨ t = 5) ∧ d < i ∧ i ≤ 24) → xF x' t k i = xF x t k i) ∧ (∀ t i q, ¬ (t = 12 ∧ d < i ∧ i ≤ 24) → xA x' t i q = xA x t i q) ∧ (∀ i, ¬ (d < i ∧ i ≤ 24) → xK x' i = xK x i) ∧ ((∀ i, xK x i < 5) → ∀ i, xK x' i < 5)
theorem cW.rf {d : Nat} {x : am_X} : cW d x x := ⟨fun _ _ _ _ _ => rfl, fun _ _ _ _ => rfl, fun _ _ => rfl, fun h => h⟩
theorem cW.tr {d : Nat} {x y z : am_X} (h : cW d x y) (h' : cW d y z) : cW d x z := ⟨fun t k i a b => (h'.1 t k i a b).trans (h.1 t k i a b), fun t i q a => (h'.2.1 t i q a).trans (h.2.1 t i q a), fun i a => (h'.2.2.1 i a).trans (h.2.2.1 i a), fun a => h'.2.2.2 (h.2.2.2 a)⟩
theorem cW.mono {d d' : Nat} {x x' : am_X} (h : cW d' x x') (hd : d ≤ d') : cW d x x' := ⟨fun t k i a b => h.1 t k i a (by omega), fun t i q a => h.2.1 t i q (by omega), fun i a => h.2.2.1 i (by omega), h.2.2.2⟩
theorem fP_cW {d i : Nat} {x x' : am_X} {P : PS} (h : fP i x x') (hi : d < i ∧ i ≤ 24) (hP : cP x' i P) : cW d x x' := ⟨fun t k j a b => h.1 t k j (by omega), fun t j q a => h.2.1 t j q (by omega), fun j a => h.2.2.1 j (by omega), fun a => fP_K h hP a⟩
theorem cW.cP {d i : Nat} {x x' : am_X} {P : PS} (h : cW d x x') (hi : i ≤ d) (hc : cP x i P) : cP x' i P := ⟨hc.1, by rw [h.2.2.1 i (by omega)]; exact hc.2.1, by rw [h.1 _ _ _ (by omega) (by omega)]; exact hc.2.2.1, by rw [h.1 _ _ _ (by omega) (by omega)]; exact hc.2.2.2.1, by rw [h.1 _ _ _ (by omega) (by omega)]; exact hc.2.2.2.2.1, by rw [h.1 _ _ _ (by omega) (by omega)]; exact hc.2.2.2.2.2.1, by rw [h.1 _ _ _ (by omega) (by omega)]; exact hc.2.2.2.2.2.2.1, hc.2.2.2.2.2.2.2.1, hc.2.2.2.2.2.2.2.2.1, fun k hk => by rw [h.2.1 _ _ _ (by omega)]; exact hc.2.2.2.2.2.2.2.2.2 k hk⟩
theorem cW.cL {d : Nat} {x x' : am_X} {l : LW} (h : cW d x x') (hc : cL x 0 l) : cL x' 0 l := ⟨fun e he => ⟨by rw [h.2.1 _ _ _ (by omega)]; exact (hc.1 e he).1, by rw [h.2.1 _ _ _ (by omega)]; exact (hc.1 e he).2.1, by rw [h.2.1 _ _ _ (by omega)]; exact (hc.1 e he).2.2⟩, by rw [h.1 _ _ _ (by omega) (by omega)]; exact hc.2⟩
theorem cW.eC {x x' : am_X} (h : cW 20 x x') : eC x x' := ⟨fun t k i o => h.1 t k i (fun e => by unfold oF at o; omega) (fun e => by unfold oF at o; omega), fun t i q o => h.2.1 t i q (fun e => by unfold oA at o; omega), fun i o => h.2.2.1 i (by omega), h.2.2.2⟩
def cS (x : am_X) (l : LW) (tl : List Nat) (sw : Nat) (a : WA) : Prop := cL x 0 l ∧ xF x 7 3 0 = nI tl.length ∧ xF x 7 4 0 = nI sw ∧ (∀ k, k < tl.length → xA x 15 0 k = nI (tl.getD k 0)) ∧ xF x 7 5 0 = a.1 ∧ xF x 7 6 0 = a.2
theorem fP_cS {i : Nat} {x x' : am_X} {l : LW} {tl : List Nat} {sw : Nat} {a : WA} (h : fP i x x') (hS : cS x l tl sw a) : cS x' l tl sw a := ⟨h.cL hS.1, by rw [h.1 _ _ _ (by omega)]; exact hS.2.1, by rw [h.1 _ _ _ (by omega)]; exact hS.2.2.1, fun k hk => by rw [h.2.1 _ _ _ (by omega)]; exact hS.2.2.2.1 k hk, by rw [h.1 _ _ _ (by omega)]; exact hS.2.2.2.2.1, by rw [h.1 _ _ _ (by omega)]; exact hS.2.2.2.2.2⟩
theorem dA_lt (k : Nat) : dA k < 24 := by unfold dA; split <;> (try split) <;> (try split) <;> omega
theorem S_stp {n i j a w : Nat} {x : am_X} {P : PS} {l : LW} (hn : 100 ≤ n) (hl : lw_ok l) (hw : w < 1900) (hij : i ≠ j) (hP : cP x j P) (hL : cL x 0 l) (ha : a = 9 ∨ aOk a) : ∃ x1 x2 x3, f_X6_copy n i j x = some x1 ∧ f_X6_does n i (nI a) 0 (nI w) x1 = some x2 ∧ f_X6_enter n i (nI (w + 1)) 0 x2 = some x3 ∧ cP x3 i (stp l a w P) ∧ fP i x x3 ∧ fP i x x1 ∧ fP i x x2 := by
  obtain ⟨x1, g1, g2, g3⟩ := S_copyP (n := n) hn hij hP
  have da : ∃ x2, f_X6_does n i (nI a) 0 (nI w) x1 = some x2 ∧ cP x2 i (if a = 9 then P else pDo l a w P) ∧ fP i x1 x2 := by
    by_cases e9 : a = 9
    · rw [if_pos e9, e9]
      exact ⟨x1, S_does9 x1, g2, fP.rf⟩
    · rw [if_neg e9]
      exact S_does hn g2 (g3.cL hL) hl (ha.resolve_left e9) (by omega)
  obtain ⟨x2, k1, k2, k3⟩ := da
  obtain ⟨x3, l1, l2, l3⟩ := S_enter (n := n) (w := w + 1) hn k2 (k3.cL (g3.cL hL)) hl.2 (by omega)
  refine ⟨x1, x2, x3, g1, k1, l1, ?_, g3.tr (k3.tr l3), g3, g3.tr k3⟩
  unfold stp
  by_cases e9 : a = 9
  · rw [if_pos e9] at l2 ⊢; exact l2
  · rw [if_neg e9] at l2 ⊢; exact l2
theorem gets_iff {g t : Int32} {k : Nat} : nI k = t - g ↔ g + nI k = t := by
  constructor
  · intro e
    rw [e, Int32.add_comm, Int32.sub_add_cancel]
  · intro e
    rw [← e, Int32.add_comm, Int32.add_sub_cancel]
section CW
variable {n sw : Nat} {l : LW} {tl : List Nat}
theorem C_walk (hn : 100 ≤ n) (hl : lw_ok l) (hw : sw ≤ 1000) (h5 : tl.length ≤ 5) : ∀ (m d dep : Nat) (x : am_X) (P : PS) (a : WA), d + (m + 1) = tl.length → m < dep → cP x (20 + d) P → pA P = 0 → cS x l tl sw a → ∃ x', f_X4_walkFrom n dep 0 (nI d) 0 x = some x' ∧ cS x' l tl sw (wk l tl sw (m + 1) d P a) ∧ cW (20 + d) x x' := by
  intro m
  induction m with
  | zero =>
    intro d dep x P a hd hdep hP hA hS
    obtain ⟨q, rfl⟩ : ∃ e, dep = e + 1 := ⟨dep - 1, by omega⟩
    have i5 : am_inB (nI d) 5 = true := am_inB_nI (by omega) (by omega)
    have loop : ∀ (r p k : Nat) (x : am_X) (a : WA), p + r = 12 → r < k → cP x (20 + d) P → cS x l tl sw a → ∃ x', b_X4_walkFrom_41 n (f_X4_walkFrom n q) k 0 (nI d) 0 (20 + d) (nI (tl.getD d 0) - pG P) (nI p) x = some x' ∧ cS x' l tl sw (wL (fun k a' => if may9 l (dA k) P = true ∧ pG (stp l (dA k) (sw + d) P) = nI (tl.getD d 0) then wk l tl sw 0 (d + 1) (stp l (dA k) (sw + d) P) a' else a') r p a) ∧ cW (20 + d) x x' := by
      intro r
      induction r with
      | zero =>
        intro p k x a hp hk hP hS
        obtain ⟨k, rfl⟩ : ∃ e, k = e + 1 := ⟨k - 1, by omega⟩
        refine ⟨x, ?_, hS, cW.rf⟩
        rw [b_X4_walkFrom_41, if_pos (show (11 : Int32) < nI p from (nI_ltI (a := 11) (by omega) (by omega)).mpr (by omega))]
      | succ r ih =>
        intro p k x a hp hk hP hS
        obtain ⟨k, rfl⟩ : ∃ e, k = e + 1 := ⟨k - 1, by omega⟩
        have ep : nI p + (1 : Int32) = nI (p + 1) := nI_add ..
        have ha24 := dA_lt p
        have hok : dA p = 9 ∨ aOk (dA p) := by
          by_cases e : dA p = 9
          · exact Or.inl e
          · exact Or.inr (dA_ok e)
        have skip : ¬ (may9 l (dA p) P = true ∧ pG (stp l (dA p) (sw + d) P) = nI (tl.getD d 0)) → ∃ x', b_X4_walkFrom_41 n (f_X4_walkFrom n q) k 0 (nI d) 0 (20 + d) (nI (tl.getD d 0) - pG P) (nI (p + 1)) x = some x' ∧ cS x' l tl sw (wL (fun k a' => if may9 l (dA k) P = true ∧ pG (stp l (dA k) (sw + d) P) = nI (tl.getD d 0) then wk l tl sw 0 (d + 1) (stp l (dA k) (sw + d) P) a' else a') (r + 1) p a) ∧ cW (20 + d) x x' := fun hno => by
          obtain ⟨x', g1, g2, g3⟩ := ih (p + 1) k x a (by omega) (by omega) hP hS
          refine ⟨x', g1, ?_, g3⟩
          rw [show wL (fun k a' => if may9 l (dA k) P = true ∧ pG (stp l (dA k) (sw + d) P) = nI (tl.getD d 0) then wk l tl sw 0 (d + 1) (stp l (dA k) (sw + d) P) a' else a') (r + 1) p a = wL (fun k a' => if may9 l (dA k) P = true ∧ pG (stp l (dA k) (sw + d) P) = nI (tl.getD d 0) then wk l tl sw 0 (d + 1) (stp l (dA k) (sw + d) P) a' else a') r (p + 1) (if may9 l (dA p) P = true ∧ pG (stp l (dA p) (sw + d) P) = nI (tl.getD d 0) then wk l tl sw 0 (d + 1) (stp l (dA p) (sw + d) P) a else a) from rfl, if_neg hno]
          exact g2
        have hit : (may9 l (dA p) P = true ∧ pG (stp l (dA p) (sw + d) P) = nI (tl.getD d 0)) → ∃ x', b_X4_walkFrom_89 n (f_X4_walkFrom n q) (b_X4_walkFrom_41 n (f_X4_walkFrom n q) k) 0 (nI d) 0 (20 + d) (nI (tl.getD d 0) - pG P) (nI p) (nI (dA p)) x = some x' ∧ cS x' l tl sw (wL (fun k a' => if may9 l (dA k) P = true ∧ pG (stp l (dA k) (sw + d) P) = nI (tl.getD d 0) then wk l tl sw 0 (d + 1) (stp l (dA k) (sw + d) P) a' else a') (r + 1) p a) ∧ cW (20 + d) x x' := fun hyes => by
          unfold b_X4_walkFrom_89 b_X4_walkFrom_121
          rw [hS.2.1, show nI tl.length - (1 : Int32) = nI (tl.length - 1) from nI_subi (b := 1) (by omega), if_neg (show ¬ ¬ nI d = nI (tl.length - 1) from fun q => q (by rw [show d = tl.length - 1 from by omega])), S_owesAfter hP.2.1 hP.2.2.2.1 hP.1.1 hP.1.2.1 hS.1 ha24, ob]
          unfold f_X4_reckon
          rw [ob]
          dsimp only
          rw [hS.2.2.2.2.1, hS.2.2.2.2.2, ep]
          have w1 : cW (20 + d) x (sF (sF x 7 5 0 (a.1 + 1)) 7 6 0 (if a.2 < nI (pOwe l (dA p) P) then nI (pOwe l (dA p) P) else a.2)) := ⟨fun t k i a b => by rw [xF_sF, if_neg (by omega), xF_sF, if_neg (by omega)], fun _ _ _ _ => rfl, fun _ _ => rfl, fun h => h⟩
          obtain ⟨x', g1, g2, g3⟩ := ih (p + 1) k (sF (sF x 7 5 0 (a.1 + 1)) 7 6 0 (if a.2 < nI (pOwe l (dA p) P) then nI (pOwe l (dA p) P) else a.2)) (a.1 + 1, if a.2 < nI (pOwe l (dA p) P) then nI (pOwe l (dA p) P) else a.2) (by omega) (by omega) (w1.cP (by omega) hP) ⟨w1.cL hS.1, by rw [xF_sF, if_neg (by omega), xF_sF, if_neg (by omega)]; exact hS.2.1, by rw [xF_sF, if_neg (by omega), xF_sF, if_neg (by omega)]; exact hS.2.2.1, hS.2.2.2.1, by rw [xF_sF, if_neg (by omega), xF_sF, if_pos ⟨rfl, rfl, rfl⟩], by rw [xF_sF, if_pos ⟨rfl, rfl, rfl⟩]⟩
          refine ⟨x', g1, ?_, w1.tr g3⟩
          rw [show wL (fun k a' => if may9 l (dA k) P = true ∧ pG (stp l (dA k) (sw + d) P) = nI (tl.getD d 0) then wk l tl sw 0 (d + 1) (stp l (dA k) (sw + d) P) a' else a') (r + 1) p a = wL (fun k a' => if may9 l (dA k) P = true ∧ pG (stp l (dA k) (sw + d) P) = nI (tl.getD d 0) then wk l tl sw 0 (d + 1) (stp l (dA k) (sw + d) P) a' else a') r (p + 1) (if may9 l (dA p) P = true ∧ pG (stp l (dA p) (sw + d) P) = nI (tl.getD d 0) then wk l tl sw 0 (d + 1) (stp l (dA p) (sw + d) P) a else a) from rfl, if_pos hyes, show wk l tl sw 0 (d + 1) (stp l (dA p) (sw + d) P) a = (a.1 + 1, if a.2 < nI (pO (stp l (dA p) (sw + d) P)) then nI (pO (stp l (dA p) (sw + d) P)) else a.2) from rfl, stp_O]
          exact g2
        rw [b_X4_walkFrom_41, if_neg (show ¬ (11 : Int32) < nI p from fun e => by
          have := (nI_ltI (a := 11) (by omega) (by omega)).mp e
          omega), S_actAt12 (by omega), ob]
        dsimp only
        rw [S_getsBy hP.2.1 hP.1.1 hS.1 ha24, ob]
        dsimp only
        unfold b_X4_walkFrom_121
        rw [ep]
        by_cases eg : nI (pGet l (dA p) P) = nI (tl.getD d 0) - pG P
        · have eg' := gets_iff.mp eg
          rw [← stp_G (l := l) (a := dA p) (w := sw + d)] at eg'
          rw [if_neg (fun q => q eg)]
          by_cases e9 : dA p = 9
          · rw [if_pos (show nI (dA p) = (9 : Int32) from by rw [e9]; rfl)]
            exact hit ⟨by unfold may9; rw [decide_eq_true e9, Bool.true_or], eg'⟩
          · rw [if_neg (show ¬ nI (dA p) = (9 : Int32) from fun q => e9 ((nI_eq (b := 9) (by omega) (by omega)).mp q)), S_isFreeTo hn hP hS.1 hl (hok.resolve_left e9), ob]
            have efr : pFree l (dA p) P = may9 l (dA p) P := by
              unfold pFree may9
              rw [hA, decide_eq_true rfl, Bool.true_and, decide_eq_false e9, Bool.false_or]
            rw [efr]
            cases hm : may9 l (dA p) P with
            | true =>
              rw [if_pos rfl, if_pos n10]
              exact hit ⟨hm, eg'⟩
            | false =>
              rw [if_neg (show ¬ false = true from Bool.false_ne_true), if_neg (fun q => q rfl)]
              exact skip (fun w => by rw [hm] at w; exact Bool.false_ne_true w.1)
        · rw [if_pos eg]
          exact skip (fun w => eg (gets_iff.mpr (by rw [← stp_G (l := l) (a := dA p) (w := sw + d)]; exact w.2)))
    obtain ⟨x', g1, g2, g3⟩ := loop 12 0 n x a rfl (by omega) hP hS
    refine ⟨x', ?_, g2, g3⟩
    show g_X4_walkFrom n (f_X4_walkFrom n q) 0 (nI d) 0 x = some x'
    unfold g_X4_walkFrom
    rw [if_neg (show ¬ nI d < 0 from fun e => by rw [lt_z, nI_toInt (by omega)] at e; omega), hS.2.1, if_neg (nI_ge (by omega) (by omega)), if_pos (show nI d < (5 : Int32) from (nI_ltI (b := 5) (by omega) (by omega)).mpr (by omega)), if_pos i5, if_pos i5, nI_c (by omega), hS.2.2.2.1 d (by omega), hP.2.2.1]
    exact g1
  | succ m ihm =>
    intro d dep x P a hd hdep hP hA hS
    obtain ⟨q, rfl⟩ : ∃ e, dep = e + 1 := ⟨dep - 1, by omega⟩
    have i5 : am_inB (nI d) 5 = true := am_inB_nI (by omega) (by omega)
    have loop : ∀ (r p k : Nat) (x : am_X) (a : WA), p + r = 12 → r < k → cP x (20 + d) P → cS x l tl sw a → ∃ x', b_X4_walkFrom_41 n (f_X4_walkFrom n q) k 0 (nI d) 0 (20 + d) (nI (tl.getD d 0) - pG P) (nI p) x = some x' ∧ cS x' l tl sw (wL (fun k a' => if may9 l (dA k) P = true ∧ pG (stp l (dA k) (sw + d) P) = nI (tl.getD d 0) then wk l tl sw (m + 1) (d + 1) (stp l (dA k) (sw + d) P) a' else a') r p a) ∧ cW (20 + d) x x' := by
      intro r
      induction r with
      | zero =>
        intro p k x a hp hk hP hS
        obtain ⟨k, rfl⟩ : ∃ e, k = e + 1 := ⟨k - 1, by omega⟩
        refine ⟨x, ?_, hS, cW.rf⟩
        rw [b_X4_walkFrom_41, if_pos (show (11 : Int32) < nI p from (nI_ltI (a := 11) (by omega) (by omega)).mpr (by omega))]
      | succ r ih =>
        intro p k x a hp hk hP hS
        obtain ⟨k, rfl⟩ : ∃ e, k = e + 1 := ⟨k - 1, by omega⟩
        have ep : nI p + (1 : Int32) = nI (p + 1) := nI_add ..
        have ha24 := dA_lt p
        have hok : dA p = 9 ∨ aOk (dA p) := by
          by_cases e : dA p = 9
          · exact Or.inl e
          · exact Or.inr (dA_ok e)
        have skip : ¬ (may9 l (dA p) P = true ∧ pG (stp l (dA p) (sw + d) P) = nI (tl.getD d 0)) → ∃ x', b_X4_walkFrom_41 n (f_X4_walkFrom n q) k 0 (nI d) 0 (20 + d) (nI (tl.getD d 0) - pG P) (nI (p + 1)) x = some x' ∧ cS x' l tl sw (wL (fun k a' => if may9 l (dA k) P = true ∧ pG (stp l (dA k) (sw + d) P) = nI (tl.getD d 0) then wk l tl sw (m + 1) (d + 1) (stp l (dA k) (sw + d) P) a' else a') (r + 1) p a) ∧ cW (20 + d) x x' := fun hno => by
          obtain ⟨x', g1, g2, g3⟩ := ih (p + 1) k x a (by omega) (by omega) hP hS
          refine ⟨x', g1, ?_, g3⟩
          rw [show wL (fun k a' => if may9 l (dA k) P = true ∧ pG (stp l (dA k) (sw + d) P) = nI (tl.getD d 0) then wk l tl sw (m + 1) (d + 1) (stp l (dA k) (sw + d) P) a' else a') (r + 1) p a = wL (fun k a' => if may9 l (dA k) P = true ∧ pG (stp l (dA k) (sw + d) P) = nI (tl.getD d 0) then wk l tl sw (m + 1) (d + 1) (stp l (dA k) (sw + d) P) a' else a') r (p + 1) (if may9 l (dA p) P = true ∧ pG (stp l (dA p) (sw + d) P) = nI (tl.getD d 0) then wk l tl sw (m + 1) (d + 1) (stp l (dA p) (sw + d) P) a else a) from rfl, if_neg hno]
          exact g2
        have hit : (may9 l (dA p) P = true ∧ pG (stp l (dA p) (sw + d) P) = nI (tl.getD d 0)) → ∃ x', b_X4_walkFrom_89 n (f_X4_walkFrom n q) (b_X4_walkFrom_41 n (f_X4_walkFrom n q) k) 0 (nI d) 0 (20 + d) (nI (tl.getD d 0) - pG P) (nI p) (nI (dA p)) x = some x' ∧ cS x' l tl sw (wL (fun k a' => if may9 l (dA k) P = true ∧ pG (stp l (dA k) (sw + d) P) = nI (tl.getD d 0) then wk l tl sw (m + 1) (d + 1) (stp l (dA k) (sw + d) P) a' else a') (r + 1) p a) ∧ cW (20 + d) x x' := fun hyes => by
          unfold b_X4_walkFrom_89 b_X4_walkFrom_121
          rw [hS.2.1, show nI tl.length - (1 : Int32) = nI (tl.length - 1) from nI_subi (b := 1) (by omega), if_pos (show ¬ nI d = nI (tl.length - 1) from fun q => by rw [nI_eqi (by omega) (by omega)] at q; omega)]
          obtain ⟨x1, x2, x3, s1, s2, s3, s4, s5, s6, s7⟩ := S_stp (n := n) (i := 20 + (d + 1)) (a := dA p) (w := sw + d) hn hl (by omega) (by omega) hP hS.1 hok
          have e1 : xF x1 7 4 0 = nI sw := by rw [s6.1 _ _ _ (by omega)]; exact hS.2.2.1
          have e2 : xF x2 7 4 0 = nI sw := by rw [s7.1 _ _ _ (by omega)]; exact hS.2.2.1
          have ed : nI d + (1 : Int32) = nI (d + 1) := nI_add ..
          obtain ⟨x4, t1, t2, t3⟩ := ihm (d + 1) q x3 (stp l (dA p) (sw + d) P) a (by omega) (by omega) s4 stp_A (fP_cS s5 hS)
          have w1 : cW (20 + d) x x4 := (fP_cW s5 (by omega) s4).tr (t3.mono (by omega))
          have go : f_X4_goOn n (f_X4_walkFrom n q) 0 (nI d) (nI (dA p)) 0 x = some x4 := by
            unfold f_X4_goOn
            rw [if_neg (show ¬ nI d < 0 from fun e => by rw [lt_z, nI_toInt (by omega)] at e; omega), if_pos (show nI d < (4 : Int32) from (nI_ltI (b := 4) (by omega) (by omega)).mpr (by omega)), ed, if_pos (am_inB_nI (by omega) (by omega)), if_pos i5, nI_c (by omega), nI_c (by omega), s1, ob, e1, nI_add, s2, ob, e2, nI_add, show nI (sw + d) + (1 : Int32) = nI (sw + d + 1) from nI_add .., s3, ob, t1, ob]
          rw [go, ob, ep]
          obtain ⟨x', g1, g2, g3⟩ := ih (p + 1) k x4 _ (by omega) (by omega) (w1.cP (by omega) hP) t2
          refine ⟨x', g1, ?_, w1.tr g3⟩
          rw [show wL (fun k a' => if may9 l (dA k) P = true ∧ pG (stp l (dA k) (sw + d) P) = nI (tl.getD d 0) then wk l tl sw (m + 1) (d + 1) (stp l (dA k) (sw + d) P) a' else a') (r + 1) p a = wL (fun k a' => if may9 l (dA k) P = true ∧ pG (stp l (dA k) (sw + d) P) = nI (tl.getD d 0) then wk l tl sw (m + 1) (d + 1) (stp l (dA k) (sw + d) P) a' else a') r (p + 1) (if may9 l (dA p) P = true ∧ pG (stp l (dA p) (sw + d) P) = nI (tl.getD d 0) then wk l tl sw (m + 1) (d + 1) (stp l (dA p) (sw + d) P) a else a) from rfl, if_pos hyes]
          exact g2
        rw [b_X4_walkFrom_41, if_neg (show ¬ (11 : Int32) < nI p from fun e => by
          have := (nI_ltI (a := 11) (by omega) (by omega)).mp e
          omega), S_actAt12 (by omega), ob]
        dsimp only
        rw [S_getsBy hP.2.1 hP.1.1 hS.1 ha24, ob]
        dsimp only
        unfold b_X4_walkFrom_121
        rw [ep]
        by_cases eg : nI (pGet l (dA p) P) = nI (tl.getD d 0) - pG P
        · have eg' := gets_iff.mp eg
          rw [← stp_G (l := l) (a := dA p) (w := sw + d)] at eg'
          rw [if_neg (fun q => q eg)]
          by_cases e9 : dA p = 9
          · rw [if_pos (show nI (dA p) = (9 : Int32) from by rw [e9]; rfl)]
            exact hit ⟨by unfold may9; rw [decide_eq_true e9, Bool.true_or], eg'⟩
          · rw [if_neg (show ¬ nI (dA p) = (9 : Int32) from fun q => e9 ((nI_eq (b := 9) (by omega) (by omega)).mp q)), S_isFreeTo hn hP hS.1 hl (hok.resolve_left e9), ob]
            have efr : pFree l (dA p) P = may9 l (dA p) P := by
              unfold pFree may9
              rw [hA, decide_eq_true rfl, Bool.true_and, decide_eq_false e9, Bool.false_or]
            rw [efr]
            cases hm : may9 l (dA p) P with
            | true =>
              rw [if_pos rfl, if_pos n10]
              exact hit ⟨hm, eg'⟩
            | false =>
              rw [if_neg (show ¬ false = true from Bool.false_ne_true), if_neg (fun q => q rfl)]
              exact skip (fun w => by rw [hm] at w; exact Bool.false_ne_true w.1)
        · rw [if_pos eg]
          exact skip (fun w => eg (gets_iff.mpr (by rw [← stp_G (l := l) (a := dA p) (w := sw + d)]; exact w.2)))
    obtain ⟨x', g1, g2, g3⟩ := loop 12 0 n x a rfl (by omega) hP hS
    refine ⟨x', ?_, g2, g3⟩
    show g_X4_walkFrom n (f_X4_walkFrom n q) 0 (nI d) 0 x = some x'
    unfold g_X4_walkFrom
    rw [if_neg (show ¬ nI d < 0 from fun e => by rw [lt_z, nI_toInt (by omega)] at e; omega), hS.2.1, if_neg (nI_ge (by omega) (by omega)), if_pos (show nI d < (5 : Int32) from (nI_ltI (b := 5) (by omega) (by omega)).mpr (by omega)), if_pos i5, if_pos i5, nI_c (by omega), hS.2.2.2.1 d (by omega), hP.2.2.1]
    exact g1
end CW
