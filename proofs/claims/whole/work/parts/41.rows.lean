/-! the rows of the reference's searches -/
def stp (l : LW) (a w : Nat) (P : PS) : PS := if a = 9 then pEnt l (w + 1) P else pEnt l (w + 1) (pDo l a w P)
def may9 (l : LW) (a : Nat) (P : PS) : Bool := decide (a = 9) || pMay l a P
theorem stp_K {l : LW} {a w : Nat} {P : PS} : pK (stp l a w P) = pK P := by unfold stp; split <;> rfl
theorem stp_A {l : LW} {a w : Nat} {P : PS} : pA (stp l a w P) = 0 := by unfold stp; split <;> rfl
theorem pGet9 {l : LW} {P : PS} : pGet l 9 P = 0 := by unfold pGet; rw [if_neg (by omega)]
theorem stp_G {l : LW} {a w : Nat} {P : PS} : pG (stp l a w P) = pG P + nI (pGet l a P) := by
  unfold stp
  by_cases e : a = 9
  · rw [if_pos e, e, pGet9]; exact (Int32.add_zero _).symm
  · rw [if_neg e]; rfl
theorem stp_O {l : LW} {a w : Nat} {P : PS} : pO (stp l a w P) = pOwe l a P := by
  unfold stp
  by_cases e : a = 9
  · rw [if_pos e, e]
    unfold pOwe
    rw [if_neg (by omega), if_neg (by omega)]
    rfl
  · rw [if_neg e]; rfl
def rK (z : am_X) (i : Nat) (P : PS) : Prop := pO P ≤ 18 ∧ xA z 65 0 i = pG P ∧ xA z 66 0 i = nI (pO P) ∧ xA z 67 0 i = nI (pC P).length ∧ (pC P).length ≤ 12 ∧ (∀ c ∈ pC P, cr_ok c) ∧ ∀ k, k < (pC P).length → xA z 68 0 (12 * i + k) = nI ((pC P).getD k 0)
/-- nothing but the scratch person, the rows from d on and what the searches tell has changed -/
def hF (d : Nat) (z z' : am_X) : Prop := (∀ k, ¬ (k = 42 ∨ k = 43 ∨ k = 30 ∨ k = 31) → xF z' 32 k 0 = xF z 32 k 0) ∧ (∀ t q, ¬ ((t = 48 ∨ t = 49 ∨ t = 50 ∨ t = 53) ∧ q = 4) → ¬ (t = 54 ∧ 48 ≤ q ∧ q < 60) → ¬ ((t = 65 ∨ t = 66 ∨ t = 67 ∨ t = 69) ∧ d ≤ q) → ¬ (t = 68 ∧ 12 * d ≤ q) → xA z' t 0 q = xA z t 0 q)
theorem hF.rf {d : Nat} {z : am_X} : hF d z z := ⟨fun _ _ => rfl, fun _ _ _ _ _ _ => rfl⟩
theorem hF.tr {d : Nat} {x y z : am_X} (h : hF d x y) (h' : hF d y z) : hF d x z := ⟨fun k o => (h'.1 k o).trans (h.1 k o), fun t q a b c e => (h'.2 t q a b c e).trans (h.2 t q a b c e)⟩
theorem hF.mono {d d' : Nat} {z z' : am_X} (h : hF d' z z') (hd : d ≤ d') : hF d z z' := ⟨h.1, fun t q a b c e => h.2 t q a b (by omega) (by omega)⟩
theorem fQ.hF {z z' : am_X} (h : fQ 4 z z') (d : Nat) : hF d z z' := ⟨fun k _ => h.1 _ _ _, fun t q a b c e => h.2.1 t 0 q a (by omega)⟩
theorem hF.rK {d j : Nat} {z z' : am_X} {P : PS} (h : hF d z z') (hj : j < d) (hr : rK z j P) : rK z' j P := ⟨hr.1, by rw [h.2 _ _ (by omega) (by omega) (by omega) (by omega)]; exact hr.2.1, by rw [h.2 _ _ (by omega) (by omega) (by omega) (by omega)]; exact hr.2.2.1, by rw [h.2 _ _ (by omega) (by omega) (by omega) (by omega)]; exact hr.2.2.2.1, hr.2.2.2.2.1, hr.2.2.2.2.2.1, fun k hk => by have := hr.2.2.2.2.1; rw [h.2 _ _ (by omega) (by omega) (by omega) (by omega)]; exact hr.2.2.2.2.2.2 k hk⟩
theorem hF.mL {d : Nat} {z z' : am_X} {l : LW} (h : hF d z z') (hM : mL z l) : mL z' l := ⟨fun e he => ⟨by rw [h.2 _ _ (by omega) (by omega) (by omega) (by omega)]; exact (hM.1 e he).1, by rw [h.2 _ _ (by omega) (by omega) (by omega) (by omega)]; exact (hM.1 e he).2.1, by rw [h.2 _ _ (by omega) (by omega) (by omega) (by omega)]; exact (hM.1 e he).2.2⟩, by rw [h.1 _ (by omega)]; exact hM.2⟩
theorem hF.eM {d : Nat} {z z' : am_X} (h : hF d z z') : eM z z' := ⟨fun k o => h.1 k (fun e => by unfold nF at o; omega), fun t q o => h.2 t q (fun e => by unfold nA at o; omega) (fun e => by unfold nA at o; omega) (fun e => by unfold nA at o; omega) (fun e => by unfold nA at o; omega)⟩
theorem hF.ct {d j : Nat} {z z' : am_X} (h : hF d z z') (hj : j < d) : xA z' 69 0 j = xA z 69 0 j := h.2 _ _ (by omega) (by omega) (by omega) (by omega)
theorem fQ_rK {j : Nat} {z z' : am_X} {P : PS} (h : fQ 4 z z') (hr : rK z j P) : rK z' j P := (h.hF (j + 1)).rK (by omega) hr
theorem M_keep_lp {n i : Nat} (hi : i < 8) : ∀ (m r k : Nat) (z : am_X), (∀ s, s < r → xA z 68 0 (12 * i + s) = xA z 54 0 (48 + s)) → r + m = 12 → m < k → ∃ z', b_X9_keepRow_45 n k 0 (nI i) (nI r) z = some z' ∧ (∀ s, s < 12 → xA z' 68 0 (12 * i + s) = xA z 54 0 (48 + s)) ∧ (∀ t k j, xF z' t k j = xF z t k j) ∧ (∀ t j s, ¬ (t = 68 ∧ 12 * i ≤ s ∧ s < 12 * i + 12) → xA z' t j s = xA z t j s) ∧ z'.2.2 = z.2.2 := by
  intro m
  induction m with
  | zero =>
    intro r k z h hr hk
    obtain ⟨k, rfl⟩ : ∃ e, k = e + 1 := ⟨k - 1, by omega⟩
    refine ⟨z, ?_, fun s hs => h s (by omega), fun _ _ _ => rfl, fun _ _ _ _ => rfl, rfl⟩
    rw [b_X9_keepRow_45, if_pos (show (12 : Int32) ≤ nI r from nI_le (a := 12) (by omega) (by omega))]
  | succ m ih =>
    intro r k z h hr hk
    obtain ⟨k, rfl⟩ : ∃ e, k = e + 1 := ⟨k - 1, by omega⟩
    rw [b_X9_keepRow_45, if_neg (show ¬ (12 : Int32) ≤ nI r from nI_ge (b := 12) (by omega) (by omega)), show (12 : Int32) * nI i + nI r = nI (12 * i + r) from by rw [show (12 : Int32) = nI 12 from rfl, pk_mul, nI_add], show (48 : Int32) + nI r = nI (48 + r) from nI_add .., if_pos (am_inB_nI (by omega) (by omega)), if_pos (am_inB_nI (by omega) (by omega)), nI_c (by omega), nI_c (by omega), show nI r + (1 : Int32) = nI (r + 1) from nI_add ..]
    obtain ⟨z', g1, g2, g3, g4, g5⟩ := ih (r + 1) k (sA z 68 0 (12 * i + r) (xA z 54 0 (48 + r))) (fun s hs => by
      rw [xA_sA, xA_sA, if_neg (show ¬ (54 = 68 ∧ 0 = 0 ∧ 48 + s = 12 * i + r) by omega)]
      by_cases e : s = r
      · rw [if_pos ⟨rfl, rfl, by omega⟩, e]
      · rw [if_neg (by omega)]; exact h s (by omega)) (by omega) (by omega)
    refine ⟨z', g1, fun s hs => ?_, fun t k j => ?_, fun t j s hs => ?_, g5⟩
    · rw [g2 s hs, xA_sA, if_neg (by omega)]
    · rw [g3, xF_sA]
    · rw [g4 t j s hs, xA_sA, if_neg (by omega)]
theorem M_keepRow {n i : Nat} {z : am_X} {P : PS} (hn : 100 ≤ n) (hi : i < 8) (h : mQ z 4 P) : ∃ z', f_X9_keepRow n 0 (nI i) z = some z' ∧ rK z' i P ∧ xA z' 69 0 i = nI 0 ∧ (∀ t k j, xF z' t k j = xF z t k j) ∧ (∀ t j s, ¬ ((t = 65 ∨ t = 66 ∨ t = 67 ∨ t = 69) ∧ s = i) → ¬ (t = 68 ∧ 12 * i ≤ s ∧ s < 12 * i + 12) → xA z' t j s = xA z t j s) ∧ z'.2.2 = z.2.2 := by
  have i8 : am_inB (nI i) 8 = true := am_inB_nI (by omega) (by omega)
  unfold f_X9_keepRow
  simp only [i8, ↓reduceIte]
  rw [nI_c (by omega), show Int32.toNatClampNeg (4 : Int32) = 4 from rfl]
  obtain ⟨z', g1, g2, g3, g4, g5⟩ := M_keep_lp (n := n) hi 12 0 n (sA (sA (sA (sA z 65 0 i (xA z 49 0 4)) 66 0 i (xA z 50 0 4)) 67 0 i (xA z 53 0 4)) 69 0 i 0) (fun s hs => absurd hs (Nat.not_lt_zero s)) (by omega) (by omega)
  refine ⟨z', g1, ⟨h.2.1, ?_, ?_, ?_, h.2.2.2.2.2.2.1, h.2.2.2.2.2.2.2.1, fun k hk => ?_⟩, ?_, fun t k j => ?_, fun t j s a b => ?_, g5⟩
  · rw [g4 _ _ _ (by omega), xA_sA, if_neg (by omega), xA_sA, if_neg (by omega), xA_sA, if_neg (by omega), xA_sA, if_pos ⟨rfl, rfl, rfl⟩]; exact h.2.2.2.1
  · rw [g4 _ _ _ (by omega), xA_sA, if_neg (by omega), xA_sA, if_neg (by omega), xA_sA, if_pos ⟨rfl, rfl, rfl⟩]; exact h.2.2.2.2.1
  · rw [g4 _ _ _ (by omega), xA_sA, if_neg (by omega), xA_sA, if_pos ⟨rfl, rfl, rfl⟩]; exact h.2.2.2.2.2.1
  · have := h.2.2.2.2.2.2.1
    rw [g2 k (by omega), xA_sA, if_neg (by omega), xA_sA, if_neg (by omega), xA_sA, if_neg (by omega), xA_sA, if_neg (by omega)]; exact h.2.2.2.2.2.2.2.2 k hk
  · rw [g4 _ _ _ (by omega), xA_sA, if_pos ⟨rfl, rfl, rfl⟩]; rfl
  · rw [g3, xF_sA, xF_sA, xF_sA, xF_sA]
  · rw [g4 t j s b, xA_sA, if_neg (by omega), xA_sA, if_neg (by omega), xA_sA, if_neg (by omega), xA_sA, if_neg (by omega)]
theorem M_back_lp {n i : Nat} (hi : i < 8) : ∀ (m r k : Nat) (z : am_X), (∀ s, s < r → xA z 54 0 (48 + s) = xA z 68 0 (12 * i + s)) → r + m = 12 → m < k → ∃ z', b_X9_backRow_38 n k 0 (nI i) (nI r) z = some z' ∧ (∀ s, s < 12 → xA z' 54 0 (48 + s) = xA z 68 0 (12 * i + s)) ∧ (∀ t k j, xF z' t k j = xF z t k j) ∧ (∀ t j s, ¬ (t = 54 ∧ 48 ≤ s ∧ s < 60) → xA z' t j s = xA z t j s) ∧ z'.2.2 = z.2.2 := by
  intro m
  induction m with
  | zero =>
    intro r k z h hr hk
    obtain ⟨k, rfl⟩ : ∃ e, k = e + 1 := ⟨k - 1, by omega⟩
    refine ⟨z, ?_, fun s hs => h s (by omega), fun _ _ _ => rfl, fun _ _ _ _ => rfl, rfl⟩
    rw [b_X9_backRow_38, if_pos (show (12 : Int32) ≤ nI r from nI_le (a := 12) (by omega) (by omega))]
  | succ m ih =>
    intro r k z h hr hk
    obtain ⟨k, rfl⟩ : ∃ e, k = e + 1 := ⟨k - 1, by omega⟩
    rw [b_X9_backRow_38, if_neg (show ¬ (12 : Int32) ≤ nI r from nI_ge (b := 12) (by omega) (by omega)), show (12 : Int32) * nI i + nI r = nI (12 * i + r) from by rw [show (12 : Int32) = nI 12 from rfl, pk_mul, nI_add], show (48 : Int32) + nI r = nI (48 + r) from nI_add .., if_pos (am_inB_nI (by omega) (by omega)), if_pos (am_inB_nI (by omega) (by omega)), nI_c (by omega), nI_c (by omega), show nI r + (1 : Int32) = nI (r + 1) from nI_add ..]
    obtain ⟨z', g1, g2, g3, g4, g5⟩ := ih (r + 1) k (sA z 54 0 (48 + r) (xA z 68 0 (12 * i + r))) (fun s hs => by
      rw [xA_sA, xA_sA, if_neg (show ¬ (68 = 54 ∧ 0 = 0 ∧ 12 * i + s = 48 + r) by omega)]
      by_cases e : s = r
      · rw [if_pos ⟨rfl, rfl, by omega⟩, e]
      · rw [if_neg (by omega)]; exact h s (by omega)) (by omega) (by omega)
    refine ⟨z', g1, fun s hs => ?_, fun t k j => ?_, fun t j s hs => ?_, g5⟩
    · rw [g2 s hs, xA_sA, if_neg (by omega)]
    · rw [g3, xF_sA]
    · rw [g4 t j s hs, xA_sA, if_neg (by omega)]
theorem M_backRow {n i : Nat} {z : am_X} {P : PS} (hn : 100 ≤ n) (hi : i < 8) (hK : pK P < 5) (h48 : xA z 48 0 4 = nI (pK P)) (h : rK z i P) : ∃ z', f_X9_backRow n 0 (nI i) z = some z' ∧ mQ z' 4 P ∧ fQ 4 z z' := by
  have i8 : am_inB (nI i) 8 = true := am_inB_nI (by omega) (by omega)
  unfold f_X9_backRow
  simp only [i8, ↓reduceIte]
  rw [nI_c (by omega), show Int32.toNatClampNeg (4 : Int32) = 4 from rfl]
  obtain ⟨z', g1, g2, g3, g4, g5⟩ := M_back_lp (n := n) hi 12 0 n (sA (sA (sA z 49 0 4 (xA z 65 0 i)) 50 0 4 (xA z 66 0 i)) 53 0 4 (xA z 67 0 i)) (fun s hs => absurd hs (Nat.not_lt_zero s)) (by omega) (by omega)
  refine ⟨z', g1, ⟨hK, h.1, ?_, ?_, ?_, ?_, h.2.2.2.2.1, h.2.2.2.2.2.1, fun k hk => ?_⟩, ⟨fun t k j => ?_, fun t j s a b => ?_, g5⟩⟩
  · rw [g4 _ _ _ (by omega), xA_sA, if_neg (by omega), xA_sA, if_neg (by omega), xA_sA, if_neg (by omega)]; exact h48
  · rw [g4 _ _ _ (by omega), xA_sA, if_neg (by omega), xA_sA, if_neg (by omega), xA_sA, if_pos ⟨rfl, rfl, rfl⟩]; exact h.2.1
  · rw [g4 _ _ _ (by omega), xA_sA, if_neg (by omega), xA_sA, if_pos ⟨rfl, rfl, rfl⟩]; exact h.2.2.1
  · rw [g4 _ _ _ (by omega), xA_sA, if_pos ⟨rfl, rfl, rfl⟩]; exact h.2.2.2.1
  · have := h.2.2.2.2.1
    rw [show 12 * 4 + k = 48 + k from by omega, g2 k (by omega), xA_sA, if_neg (by omega), xA_sA, if_neg (by omega), xA_sA, if_neg (by omega)]; exact h.2.2.2.2.2.2 k hk
  · rw [g3, xF_sA, xF_sA, xF_sA]
  · rw [g4 t j s (by omega), xA_sA, if_neg (by omega), xA_sA, if_neg (by omega), xA_sA, if_neg (by omega)]
theorem may_bare {l : LW} {a : Nat} {P : PS} (h : pMay l a P = true) (ha : aOk a) : 20 ≤ a → pO P = 0 := by
  intro h20
  unfold pMay at h
  rw [if_neg (show ¬ a < 3 by omega), if_neg (show ¬ (10 ≤ a ∧ a < 14) by omega), decide_eq_true_eq] at h
  exact h
theorem M_goRow {n i w a c : Nat} {v3 : Int32} {z : am_X} {P : PS} {l : LW} (hn : 100 ≤ n) (hi : i < 7) (hl : lw_ok l) (hw : w < 1900) (hK : pK P < 5) (h48 : xA z 48 0 4 = nI (pK P)) (hr : rK z i P) (hM : mL z l) (hc : xA z 69 0 i = nI c) (hc8 : c < 100) (hact : f_X9_actBy n (nI c) v3 z = some (nI a, z)) (ha : a = 9 ∨ aOk a) : ∃ z', f_X9_goRow n 0 (nI i) (nI w) v3 z = some ((if may9 l a P = true then 1 else 0), z') ∧ (∀ t k j, xF z' t k j = xF z t k j) ∧ xA z' 69 0 i = nI (c + 1) ∧ xA z' 48 0 4 = nI (pK P) ∧ hF i z z' ∧ rK z' i P ∧ (may9 l a P = true → mQ z' 4 (stp l a w P) ∧ rK z' (i + 1) (stp l a w P) ∧ xA z' 69 0 (i + 1) = nI 0) := by
  have i8 : am_inB (nI i) 8 = true := am_inB_nI (by omega) (by omega)
  unfold f_X9_goRow
  rw [if_pos i8, nI_c (by omega), hc, hact, ob, if_pos i8, if_pos i8]
  dsimp only
  rw [hc, show nI c + (1 : Int32) = nI (c + 1) from nI_add ..]
  have o : ∀ t j q, ¬ (t = 69 ∧ q = i) → xA (sA z 69 0 i (nI (c + 1))) t j q = xA z t j q := fun t j q a => by rw [xA_sA, if_neg (by omega)]
  have hr1 : rK (sA z 69 0 i (nI (c + 1))) i P := ⟨hr.1, (o _ _ _ (by omega)).trans hr.2.1, (o _ _ _ (by omega)).trans hr.2.2.1, (o _ _ _ (by omega)).trans hr.2.2.2.1, hr.2.2.2.2.1, hr.2.2.2.2.2.1, fun k hk => (o _ _ _ (by omega)).trans (hr.2.2.2.2.2.2 k hk)⟩
  have h1 : hF i z (sA z 69 0 i (nI (c + 1))) := ⟨fun _ _ => rfl, fun t q a b c e => o _ _ _ (by omega)⟩
  obtain ⟨z1, g1, g2, g3⟩ := M_backRow (n := n) hn (show i < 8 by omega) hK (show xA (sA z 69 0 i (nI (c + 1))) 48 0 4 = nI (pK P) from (o _ _ _ (by omega)).trans h48) hr1
  have hM1 := g3.mL (h1.mL hM)
  have c1 : xA z1 69 0 i = nI (c + 1) := by rw [g3.2.1 _ _ _ (by omega) (by omega), xA_sA, if_pos ⟨rfl, rfl, rfl⟩]
  rw [g1, ob, show (4 : Int32) = nI 4 from rfl]
  have md : f_X9_mayDo n 0 (nI 4) (nI a) z1 = some ((if may9 l a P = true then 1 else 0), z1) := by
    rcases ha with e | e
    · rw [e, M_mayDo9, if_pos]
      unfold may9
      rw [decide_eq_true rfl, Bool.true_or]
    · rw [M_mayDo hn (by omega) g2 hM1 hl e]
      have e9 : a ≠ 9 := by unfold aOk at e; omega
      unfold may9
      rw [decide_eq_false e9, Bool.false_or]
  rw [md, ob]
  cases hmay : may9 l a P with
  | false =>
    rw [if_neg (show ¬ false = true from Bool.false_ne_true), if_neg (fun q => q rfl)]
    exact ⟨z1, rfl, fun t k j => by rw [g3.1]; rfl, c1, g2.2.2.1, h1.tr (g3.hF i), fQ_rK g3 hr1, fun q => absurd q Bool.false_ne_true⟩
  | true =>
    rw [if_pos rfl, if_pos n10]
    dsimp only
    have da : ∃ z2, f_X9_doAct n 0 (nI 4) (nI a) (nI w) z1 = some z2 ∧ mQ z2 4 (if a = 9 then P else pDo l a w P) ∧ fQ 4 z1 z2 := by
      by_cases e9 : a = 9
      · rw [if_pos e9, e9]
        exact ⟨z1, M_doAct9 z1, g2, fQ.rf⟩
      · rw [if_neg e9]
        have hok := ha.resolve_left e9
        unfold may9 at hmay
        rw [decide_eq_false e9, Bool.false_or] at hmay
        exact M_doAct hn (by omega) g2 hM1 hl hok (by omega) (may_bare hmay hok)
    obtain ⟨z2, k1, k2, k3⟩ := da
    obtain ⟨z3, l1, l2, l3⟩ := M_lapseP (n := n) (w := w + 1) hn (by omega) k2 (k3.mL hM1) hl.2 (by omega)
    have q3 : mQ z3 4 (stp l a w P) := by
      unfold stp
      by_cases e9 : a = 9
      · rw [if_pos e9] at l2 ⊢
        exact mQ_core l2 rfl rfl rfl rfl
      · rw [if_neg e9] at l2 ⊢
        exact mQ_core l2 rfl rfl rfl rfl
    obtain ⟨z4, m1, m2, m3, m4, m5, m6⟩ := M_keepRow (n := n) (i := i + 1) hn (by omega) q3
    have f3 : fQ 4 (sA z 69 0 i (nI (c + 1))) z3 := g3.tr (k3.tr l3.fQ)
    have f4 : hF (i + 1) z3 z4 := ⟨fun _ _ => m4 _ _ _, fun t q a b c e => m5 _ _ _ (by omega) (by omega)⟩
    refine ⟨z4, ?_, fun t k j => by rw [m4, f3.1]; rfl, ?_, ?_, h1.tr ((f3.hF i).tr (f4.mono (by omega))), f4.rK (by omega) (fQ_rK f3 hr1), fun _ => ⟨?_, m2, m3⟩⟩
    · rw [k1, ob, show nI w + (1 : Int32) = nI (w + 1) from nI_add .., l1, ob, show nI i + (1 : Int32) = nI (i + 1) from nI_add .., m1, ob]
    · rw [f4.ct (by omega), f3.2.1 _ _ _ (by omega) (by omega), xA_sA, if_pos ⟨rfl, rfl, rfl⟩]
    · rw [m5 _ _ _ (by omega) (by omega), q3.2.2.1, stp_K]
    · exact ⟨q3.1, q3.2.1, by rw [m5 _ _ _ (by omega) (by omega)]; exact q3.2.2.1, by rw [m5 _ _ _ (by omega) (by omega)]; exact q3.2.2.2.1, by rw [m5 _ _ _ (by omega) (by omega)]; exact q3.2.2.2.2.1, by rw [m5 _ _ _ (by omega) (by omega)]; exact q3.2.2.2.2.2.1, q3.2.2.2.2.2.2.1, q3.2.2.2.2.2.2.2.1, fun k hk => by rw [m5 _ _ _ (by omega) (by omega)]; exact q3.2.2.2.2.2.2.2.2 k hk⟩
