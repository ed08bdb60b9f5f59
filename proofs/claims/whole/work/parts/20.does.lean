/-! A PERSON of the class: acts, weeks, copies -/
def pDo (l : LW) (a w : Nat) (P : PS) : PS := (pK P, (pG P + nI (pGet l a P), (pOwe l a P, (1, (pZ P, pCrd l a w P)))))
def pLap (l : LW) (w : Nat) (P : PS) : PS := (pK P, (pG P, (pO P, (pA P, (pZ P, cr_lap ((w : Int) - (l.2.2.2 : Int)) (pC P))))))
def pEnt (l : LW) (w : Nat) (P : PS) : PS := (pK P, (pG P, (pO P, (0, (pZ P, cr_lap ((w : Int) - (l.2.2.2 : Int)) (pC P))))))
theorem pOwe_le {l : LW} {a : Nat} {P : PS} (hl : lw_ok l) (ha : a < 24) (ho : pO P ≤ 18) : pOwe l a P ≤ 18 := by
  unfold pOwe
  split
  · omega
  · split
    · have h := (hl.1 (a % 10) (by omega)).1.2
      unfold ko
      split <;> omega
    · exact ho
theorem S_earns {n i s w : Nat} {x : am_X} {P : PS} (hn : 100 ≤ n) (hs : s < 3) (hw : w < 2000) (hk : xK x i = pK P) (k5 : pK P < 5) (ho : xF x 4 3 i = nI (pO P)) (o9 : pO P ≤ 18) (hc : cC x i (pC P)) : ∃ x', f_X6_earns n i (nI s) (nI w) x = some x' ∧ cC x' i (if pO P = 0 then (if pK P = 2 then cr_giv (4 * w + s) (cr_giv (4 * w + s) (pC P)) else cr_giv (4 * w + s) (pC P)) else pC P) ∧ fC i x x' := by
  obtain ⟨n, rfl⟩ : ∃ e, n = e + 3 := ⟨n - 3, by omega⟩
  unfold f_X6_earns
  have tab : ∀ k, k < 5 → (List.getD [1, 1, 2, 1, 1] k 0 : Int32) = nI (if k = 2 then 2 else 1) := by decide +kernel
  rw [b_X6_earns_2, ho]
  by_cases h0 : pO P = 0
  · rw [if_neg (fun e => e ((z0 (by omega)).mpr h0)), hk, tab _ k5, if_pos h0, if_neg (by split <;> decide)]
    obtain ⟨x1, g1, g2, g3⟩ := S_give hn hs hw hc
    have e1 : xF x1 4 3 i = nI (pO P) := by rw [g3.1 _ _ _ (fun e => by cases e.1)]; exact ho
    have e2 : xK x1 i = pK P := by rw [show xK x1 i = xK x i from congrFun (congrArg Prod.fst g3.2.2) i]; exact hk
    rw [g1, ob, b_X6_earns_2, e1, if_neg (fun e => e ((z0 (by omega)).mpr h0)), e2, tab _ k5]
    by_cases h2 : pK P = 2
    · rw [if_pos h2, if_pos h2, if_neg (by decide)]
      obtain ⟨x2, g4, g5, g6⟩ := S_give hn hs hw g2
      have e3 : xF x2 4 3 i = nI (pO P) := by rw [g6.1 _ _ _ (fun e => by cases e.1)]; exact e1
      have e4 : xK x2 i = pK P := by rw [show xK x2 i = xK x1 i from congrFun (congrArg Prod.fst g6.2.2) i]; exact e2
      rw [g4, ob, b_X6_earns_2, e3, if_neg (fun e => e ((z0 (by omega)).mpr h0)), e4, tab _ k5, if_pos h2, if_pos (by decide)]
      exact ⟨x2, rfl, g5, g3.tr g6⟩
    · rw [if_neg h2, if_neg h2, if_pos (by decide)]
      exact ⟨x1, rfl, g2, g3⟩
  · rw [if_pos (fun e => h0 ((z0 (by omega)).mp e)), if_neg h0]
    exact ⟨x, rfl, hc, fC.rf⟩
theorem fC.cL {i j : Nat} {x x' : am_X} {l : LW} (h : fC i x x') (hc : cL x j l) : cL x' j l := h.fP.cL hc
/-- the end of an ACT: got, owes, acted -/
theorem S_does_57 {n i j a : Nat} {x : am_X} {P : PS} {l : LW} {cs : List Nat} (hP : pOk P) (hl : lw_ok l) (hL : cL x j l) (ha : a < 24) (e1 : xK x i = pK P) (e2 : xF x 4 2 i = pG P) (e3 : xF x 4 3 i = nI (pO P)) (e5 : xF x 4 5 i = nI (pZ P)) (e6 : cC x i cs) : ∃ x', b_X6_does_57 n i (nI a) j x = some x' ∧ cP x' i (pK P, (pG P + nI (pGet l a P), (pOwe l a P, (1, (pZ P, cs))))) ∧ fP i x x' := by
  obtain ⟨k5, o9, a1, z1⟩ := hP
  unfold b_X6_does_57
  rw [S_getsBy e1 k5 hL ha, ob, e2]
  have hL2 : cL (sF x 4 2 i (pG P + nI (pGet l a P))) j l := fP.put.cL hL
  rw [S_owesAfter (P := P) (x := sF x 4 2 i (pG P + nI (pGet l a P))) e1 (by rw [xF_sF, if_neg (by omega)]; exact e3) k5 o9 hL2 ha, ob]
  refine ⟨_, rfl, ⟨⟨k5, pOwe_le hl ha o9, Nat.le_refl 1, z1⟩, e1, ?_, ?_, ?_, ?_, ?_⟩, (fP.put.tr fP.put).tr fP.put⟩
  · rw [xF_sF, if_neg (by omega), xF_sF, if_neg (by omega), xF_sF, if_pos ⟨rfl, rfl, rfl⟩]
  · rw [xF_sF, if_neg (by omega), xF_sF, if_pos ⟨rfl, rfl, rfl⟩]
  · rw [xF_sF, if_pos ⟨rfl, rfl, rfl⟩]
    rfl
  · rw [xF_sF, if_neg (by omega), xF_sF, if_neg (by omega), xF_sF, if_neg (by omega)]
    exact e5
  · exact ⟨by rw [xF_sF, if_neg (by omega), xF_sF, if_neg (by omega), xF_sF, if_neg (by omega)]; exact e6.1, e6.2.1, e6.2.2.1, e6.2.2.2⟩
theorem S_does {n i j a w : Nat} {x : am_X} {P : PS} {l : LW} (hn : 100 ≤ n) (hP : cP x i P) (hL : cL x j l) (hl : lw_ok l) (ha : aOk a) (hw : w < 2000) : ∃ x', f_X6_does n i (nI a) j (nI w) x = some x' ∧ cP x' i (pDo l a w P) ∧ fP i x x' := by
  obtain ⟨hok, e1, e2, e3, e4, e5, e6⟩ := hP
  have ha' : a < 24 := by rcases ha with h | h | h <;> omega
  have ha9 : a ≠ 9 := by rcases ha with h | h | h <;> omega
  unfold f_X6_does pDo pCrd
  rw [if_pos (by rw [show (9 : Int32) = nI 9 from rfl, nI_eqi (by omega) (by omega)]; exact ha9), S_isServing x (by omega), ob]
  by_cases h3 : a < 3
  · rw [if_pos h3, if_neg n10, if_pos h3]
    obtain ⟨x1, g1, g2, g3⟩ := S_earns (P := P) hn h3 hw e1 hok.1 e3 hok.2.1 e6
    rw [g1, ob]
    unfold b_X6_does_20
    rw [S_isCoveredDeed x1 (by omega), ob, if_neg (show ¬ (10 ≤ a ∧ a < 14) by omega), if_pos rfl]
    obtain ⟨x2, g4, g5, g6⟩ := S_does_57 (n := n) (a := a) hok hl (g3.cL hL) ha' (by rw [show xK x1 i = xK x i from congrFun (congrArg Prod.fst g3.2.2) i]; exact e1) (by rw [g3.1 _ _ _ (fun e => by cases e.1)]; exact e2) (by rw [g3.1 _ _ _ (fun e => by cases e.1)]; exact e3) (by rw [g3.1 _ _ _ (fun e => by cases e.1)]; exact e5) g2
    exact ⟨x2, g4, g5, g3.fP.tr g6⟩
  · rw [if_neg h3, if_pos rfl, if_neg h3]
    unfold b_X6_does_20
    rw [S_isCoveredDeed x (by omega), ob]
    by_cases h4 : 10 ≤ a ∧ a < 14
    · have hd : a % 10 < 4 := by omega
      rw [if_pos h4, if_neg n10, if_pos h4, a_mod (by omega), S_sortsOf hL hd, ob, S_termOf hL hd, ob, e1, S_needs x hok.1 (hl.1 _ hd).1.1 (hl.1 _ hd).1.2, ob]
      obtain ⟨x1, g1, g2, g3⟩ := S_dropOldest (n := n) (s := l.2.2.1 (a % 10)) (left := kn (pK P) (l.1 (a % 10))) hn (hl.1 _ hd).2.2 (by have := (kn_le (k := pK P) (hl.1 _ hd).1.2).2; omega) e6
      rw [g1, ob]
      obtain ⟨x2, g4, g5, g6⟩ := S_does_57 (n := n) (a := a) hok hl (g3.cL hL) ha' (by rw [show xK x1 i = xK x i from congrFun (congrArg Prod.fst g3.2.2) i]; exact e1) (by rw [g3.1 _ _ _ (fun e => by cases e.1)]; exact e2) (by rw [g3.1 _ _ _ (fun e => by cases e.1)]; exact e3) (by rw [g3.1 _ _ _ (fun e => by cases e.1)]; exact e5) g2
      exact ⟨x2, g4, g5, g3.fP.tr g6⟩
    · rw [if_neg h4, if_pos rfl, if_neg h4]
      exact S_does_57 (n := n) (a := a) hok hl hL ha' e1 e2 e3 e5 e6
theorem S_does9 {n i j : Nat} {w : Int32} (x : am_X) : f_X6_does n i (nI 9) j w x = some x := by
  unfold f_X6_does
  rw [if_neg (fun h => h rfl)]
theorem cP_crd {x x' : am_X} {i : Nat} {P : PS} {cs : List Nat} (hP : cP x i P) (h : fC i x x') (hc : cC x' i cs) : cP x' i (pK P, (pG P, (pO P, (pA P, (pZ P, cs))))) := ⟨hP.1, by rw [show xK x' i = xK x i from congrFun (congrArg Prod.fst h.2.2) i]; exact hP.2.1, by rw [h.1 _ _ _ (fun e => by cases e.1)]; exact hP.2.2.1, by rw [h.1 _ _ _ (fun e => by cases e.1)]; exact hP.2.2.2.1, by rw [h.1 _ _ _ (fun e => by cases e.1)]; exact hP.2.2.2.2.1, by rw [h.1 _ _ _ (fun e => by cases e.1)]; exact hP.2.2.2.2.2.1, hc⟩
theorem lap_int {w L : Nat} (hw : w < 100000) (hL : L ≤ 9) : (nI w - nI L).toInt = (w : Int) - L := pk_sub_toInt (by omega) (by omega)
theorem S_dropLapsed {n i j w : Nat} {x : am_X} {P : PS} {l : LW} (hn : 100 ≤ n) (hP : cP x i P) (hL : cL x j l) (hl : l.2.2.2 ≤ 9) (hw : w < 100000) : ∃ x', f_X6_dropLapsed n i (nI w) j x = some x' ∧ cP x' i (pLap l w P) ∧ fP i x x' := by
  unfold f_X6_dropLapsed f_X3_firstThatCounts
  rw [ob, hL.2]
  have hi := lap_int hw hl
  obtain ⟨x', g1, g2, g3⟩ := S_ahead (n := n) (fw := nI w - nI l.2.2.2) hn hP.2.2.2.2.2.2 (by rw [hi]; omega) (by rw [hi]; omega)
  rw [g1, ob]
  rw [hi] at g2
  exact ⟨x', rfl, cP_crd hP g3 g2, g3.fP⟩
theorem S_enter {n i j w : Nat} {x : am_X} {P : PS} {l : LW} (hn : 100 ≤ n) (hP : cP x i P) (hL : cL x j l) (hl : l.2.2.2 ≤ 9) (hw : w < 100000) : ∃ x', f_X6_enter n i (nI w) j x = some x' ∧ cP x' i (pEnt l w P) ∧ fP i x x' := by
  unfold f_X6_enter
  have hP2 : cP (sF x 4 4 i (0 : Int32)) i (pK P, (pG P, (pO P, (0, (pZ P, pC P))))) := ⟨⟨hP.1.1, hP.1.2.1, Nat.zero_le _, hP.1.2.2.2⟩, hP.2.1, by rw [xF_sF, if_neg (by omega)]; exact hP.2.2.1, by rw [xF_sF, if_neg (by omega)]; exact hP.2.2.2.1, by rw [xF_sF, if_pos ⟨rfl, rfl, rfl⟩]; rfl, by rw [xF_sF, if_neg (by omega)]; exact hP.2.2.2.2.2.1, by rw [xF_sF, if_neg (by omega)]; exact hP.2.2.2.2.2.2.1, hP.2.2.2.2.2.2.2.1, hP.2.2.2.2.2.2.2.2.1, hP.2.2.2.2.2.2.2.2.2⟩
  obtain ⟨x', g1, g2, g3⟩ := S_dropLapsed (n := n) hn hP2 (fP.put.cL hL) hl hw
  rw [g1, ob]
  exact ⟨x', rfl, g2, fP.put.tr g3⟩
theorem S_copyP {n i j : Nat} {x : am_X} {P : PS} (hn : 100 ≤ n) (hij : i ≠ j) (hP : cP x j P) : ∃ x', f_X6_copy n i j x = some x' ∧ cP x' i P ∧ fP i x x' := by
  obtain ⟨hok, e1, e2, e3, e4, e5, e6⟩ := hP
  have b01 : ∀ v, v ≤ 1 → am_bz (nI v) = true := by decide +kernel
  unfold f_X6_copy
  rw [e4, e5, if_pos (b01 _ hok.2.2.1), if_pos (b01 _ hok.2.2.2), e1, e2, e3]
  have hc2 : cC (sF (sF (sF (sF (sK x i (pK P)) 4 2 i (pG P)) 4 3 i (nI (pO P))) 4 4 i (nI (pA P))) 4 5 i (nI (pZ P))) j (pC P) := ((((fP.kind.tr fP.put).tr fP.put).tr fP.put).tr fP.put).cC (Ne.symm hij) e6
  obtain ⟨x', g1, g2, g3⟩ := S_copyC (n := n) hn hij hc2
  rw [g1, ob]
  refine ⟨x', rfl, ⟨hok, ?_, ?_, ?_, ?_, ?_, g2⟩, (((((fP.kind.tr fP.put).tr fP.put).tr fP.put).tr fP.put)).tr g3.fP⟩
  · rw [show xK x' i = xK (sK x i (pK P)) i from congrFun (congrArg Prod.fst g3.2.2) i, xK_sK, if_pos rfl]
  · rw [g3.1 _ _ _ (fun e => by cases e.1), xF_sF, if_neg (by omega), xF_sF, if_neg (by omega), xF_sF, if_neg (by omega), xF_sF, if_pos ⟨rfl, rfl, rfl⟩]
  · rw [g3.1 _ _ _ (fun e => by cases e.1), xF_sF, if_neg (by omega), xF_sF, if_neg (by omega), xF_sF, if_pos ⟨rfl, rfl, rfl⟩]
  · rw [g3.1 _ _ _ (fun e => by cases e.1), xF_sF, if_neg (by omega), xF_sF, if_pos ⟨rfl, rfl, rfl⟩]
  · rw [g3.1 _ _ _ (fun e => by cases e.1), xF_sF, if_pos ⟨rfl, rfl, rfl⟩]
def pTold (P : PS) (a : Nat) : Int32 := if a = 0 then nI (pK P) else if a = 1 then pG P else if a = 2 then nI (pO P) else if a = 3 then nI (pC P).length else if a = 4 then nI ((pC P).countP (cr_has 1)) else if a = 5 then nI ((pC P).countP (cr_has 2)) else if a = 6 then nI ((pC P).countP (cr_has 4)) else if a = 7 then (match pC P with | c :: _ => nI (c / 4) | [] => -1) else if a = 8 then nI (pA P) else nI (pZ P)
theorem cr_find7 {cs : List Nat} (h : ∀ c ∈ cs, cr_ok c) : cs.find? (cr_has 7) = cs.head? := by
  cases cs with
  | nil => rfl
  | cons c cs =>
    have h7 : cr_has 7 c = true := by
      have hc := (h c List.mem_cons_self).1
      unfold cr_has
      have : ∀ k, k < 3 → Nat.testBit 7 k = true := by decide +kernel
      exact this _ hc
    rw [List.find?_cons, h7]
    rfl
theorem cr_how0 (s : Nat) (cs : List Nat) : cs.countP (fun c => decide ((0 : Int32).toInt ≤ ((c / 4 : Nat) : Int)) && cr_has s c) = cs.countP (cr_has s) := by
  have e : (fun c => decide ((0 : Int32).toInt ≤ ((c / 4 : Nat) : Int)) && cr_has s c) = cr_has s := by
    funext c
    rw [show (0 : Int32).toInt = 0 from by decide, decide_eq_true (by omega), Bool.true_and]
  rw [e]
theorem S_told {n i a : Nat} {x : am_X} {P : PS} (hn : 100 ≤ n) (hP : cP x i P) (ha : a < 10) : f_X6_told n i (nI a) x = some (pTold P a, x) := by
  obtain ⟨hok, e1, e2, e3, e4, e5, e6⟩ := hP
  have hz : (0 : Int32).toInt = 0 := by decide
  have how : ∀ s, s < 8 → f_X0_howMany n i (nI s) (0 : Int32) x = some (nI ((pC P).countP (cr_has s)), x) := fun s hs => by
    rw [S_howMany hn e6 hs (by rw [hz]; omega) (by rw [hz]; omega), cr_how0]
  have hbit : ∀ v, v ≤ 1 → (if nI v = 0 then some ((0 : Int32), x) else some ((1 : Int32), x)) = some (nI v, x) := by
    intro v hv
    rcases (show v = 0 ∨ v = 1 by omega) with rfl | rfl
    · rfl
    · rfl
  unfold f_X6_told pTold
  rw [e1, e2, e3, e4, e5, e6.1, show (1 : Int32) = nI 1 from rfl, show (2 : Int32) = nI 2 from rfl, show (4 : Int32) = nI 4 from rfl, show (7 : Int32) = nI 7 from rfl, how 1 (by omega), how 2 (by omega), how 4 (by omega), S_oldest hn (by omega) e6, cr_find7 e6.2.2.1]
  rcases (show a = 0 ∨ a = 1 ∨ a = 2 ∨ a = 3 ∨ a = 4 ∨ a = 5 ∨ a = 6 ∨ a = 7 ∨ a = 8 ∨ a = 9 by omega) with rfl | rfl | rfl | rfl | rfl | rfl | rfl | rfl | rfl | rfl
  · have : ∀ k, k < 5 → (List.getD [0, 1, 2, 3, 4] k 0 : Int32) = nI k := by decide +kernel
    rw [if_pos (by decide), if_pos rfl]
    exact congrArg (fun v => some (v, x)) (this _ hok.1)
  · rfl
  · rfl
  · rfl
  · rfl
  · rfl
  · rfl
  · cases pC P <;> rfl
  · exact hbit _ hok.2.2.1
  · exact hbit _ hok.2.2.2
theorem S_begin {n i k : Nat} {x : am_X} (hk : k < 5) : ∃ x', f_X6_begin n i k x = some x' ∧ cP x' i (k, (0, (0, (0, (0, []))))) ∧ fP i x x' := by
  unfold f_X6_begin
  refine ⟨_, rfl, ⟨⟨hk, Nat.zero_le _, Nat.zero_le _, Nat.zero_le _⟩, ?_, ?_, ?_, ?_, ?_, ⟨?_, Nat.zero_le 12, (fun c hc => absurd hc List.not_mem_nil), fun q hq => absurd hq (Nat.not_lt_zero q)⟩⟩, ((((fP.kind.tr fP.put).tr fP.put).tr fP.put).tr fP.put).tr fP.puts⟩
  · exact (xK_sK _ _ _ _).trans (if_pos rfl)
  · rw [xF_sF, if_neg (by omega), xF_sF, if_neg (by omega), xF_sF, if_neg (by omega), xF_sF, if_neg (by omega), xF_sF, if_pos ⟨rfl, rfl, rfl⟩]
  · rw [xF_sF, if_neg (by omega), xF_sF, if_neg (by omega), xF_sF, if_neg (by omega), xF_sF, if_pos ⟨rfl, rfl, rfl⟩]
    rfl
  · rw [xF_sF, if_neg (by omega), xF_sF, if_neg (by omega), xF_sF, if_pos ⟨rfl, rfl, rfl⟩]
    rfl
  · rw [xF_sF, if_neg (by omega), xF_sF, if_pos ⟨rfl, rfl, rfl⟩]
    rfl
  · rw [xF_sF, if_pos ⟨rfl, rfl, rfl⟩]
    rfl
