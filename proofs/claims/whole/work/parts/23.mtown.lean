/-! THE PEOPLE of the reference -/
def mT (z : am_X) (N w : Nat) (T : Nat → PS) : Prop := N ≤ 4 ∧ xF z 32 7 0 = nI N ∧ xF z 32 6 0 = nI w ∧ ∀ p, p < N → mP z p (T p)
def fN (z z' : am_X) : Prop := (∀ t k j, ¬ (t = 32 ∧ k = 6 ∧ j = 0) → xF z' t k j = xF z t k j) ∧ (∀ t i q, ¬ (48 ≤ t ∧ t ≤ 53 ∧ q < 4) → ¬ (t = 54 ∧ q < 48) → xA z' t i q = xA z t i q) ∧ z'.2.2 = z.2.2
theorem fN.rf {z : am_X} : fN z z := ⟨fun _ _ _ _ => rfl, fun _ _ _ _ _ => rfl, rfl⟩
theorem fN.tr {x y z : am_X} (h : fN x y) (h' : fN y z) : fN x z := ⟨fun t k j a => (h'.1 t k j a).trans (h.1 t k j a), fun t j q a b => (h'.2.1 t j q a b).trans (h.2.1 t j q a b), h'.2.2.trans h.2.2⟩
theorem fQ.fN {p : Nat} {z z' : am_X} (h : fQ p z z') (hp : p < 4) : fN z z' := ⟨fun t k j _ => h.1 t k j, fun t i q a b => h.2.1 t i q (fun e => a (by omega)) (fun e => b (by omega)), h.2.2⟩
theorem fN.put {p t : Nat} {z : am_X} {v : Int32} (hp : p < 4) (ht : 48 ≤ t) (ht' : t ≤ 53) : fN z (sA z t 0 p v) := ⟨fun _ _ _ _ => rfl, fun t' i q a b => by rw [xA_sA, if_neg (fun e => a (by omega))], rfl⟩
theorem fN.week {z : am_X} {v : Int32} : fN z (sF z 32 6 0 v) := ⟨fun t k j a => by rw [xF_sF, if_neg a], fun _ _ _ _ _ => rfl, rfl⟩
theorem fN.mL {z z' : am_X} {l : LW} (h : fN z z') (hL : mL z l) : mL z' l := ⟨fun d hd => ⟨by rw [h.2.1 _ _ _ (fun e => by omega) (fun e => by omega)]; exact (hL.1 d hd).1, by rw [h.2.1 _ _ _ (fun e => by omega) (fun e => by omega)]; exact (hL.1 d hd).2.1, by rw [h.2.1 _ _ _ (fun e => by omega) (fun e => by omega)]; exact (hL.1 d hd).2.2⟩, by rw [h.1 _ _ _ (fun e => by omega)]; exact hL.2⟩
theorem mT.set {N w p : Nat} {z z' : am_X} {T : Nat → PS} {P : PS} (h : mT z N w T) (hf : fQ p z z') (hP : mP z' p P) : mT z' N w (fun j => if j = p then P else T j) := ⟨h.1, by rw [hf.1]; exact h.2.1, by rw [hf.1]; exact h.2.2.1, fun j hj => by
  show mP z' j (if j = p then P else T j)
  by_cases e : j = p
  · rw [if_pos e, e]; exact hP
  · rw [if_neg e]; exact hf.mP e (h.2.2.2 j hj)⟩
theorem mT.eq {N w : Nat} {z : am_X} {T T' : Nat → PS} (h : mT z N w T) (e : ∀ i, i < N → T' i = T i) : mT z N w T' := ⟨h.1, h.2.1, h.2.2.1, fun i hi => by rw [e i hi]; exact h.2.2.2 i hi⟩
theorem M_lapsePP {n p w : Nat} {z : am_X} {P : PS} {l : LW} (hn : 100 ≤ n) (hp : p < 5) (hP : mP z p P) (hL : mL z l) (hl : l.2.2.2 ≤ 9) (hw : w < 100000) : ∃ z', f_X9_lapseOf n 0 (nI p) (nI w) z = some z' ∧ mP z' p (pLap l w P) ∧ fM p z z' := by
  obtain ⟨z', g1, g2, g3⟩ := M_lapseP hn hp hP.1 hL hl hw
  exact ⟨z', g1, ⟨g2, hP.2.1, hP.2.2.1, by rw [g3.2.1 _ _ _ (fun e => by cases e.1) (fun e => by cases e.1)]; exact hP.2.2.2.1, by rw [g3.2.1 _ _ _ (fun e => by cases e.1) (fun e => by cases e.1)]; exact hP.2.2.2.2⟩, g3⟩
theorem M_lapseAll {n N w : Nat} {l : LW} {T : Nat → PS} {z : am_X} (hn : 100 ≤ n) (hl : l.2.2.2 ≤ 9) (hw : w < 100000) (h : mT z N w T) (hL : mL z l) : ∃ z', f_X9_lapseAll n 0 z = some z' ∧ mT z' N w (tG (pLap l w) N T) ∧ fN z z' := by
  have h4 := h.1
  have lp : ∀ (m j k : Nat) (z : am_X), mT z N w (tG (pLap l w) j T) → mL z l → j + m = N → m < k → ∃ z', b_X9_lapseAll_2 n k 0 (nI j) z = some z' ∧ mT z' N w (tG (pLap l w) N T) ∧ fN z z' := by
    intro m
    induction m with
    | zero =>
      intro j k z h hL hj hk
      obtain ⟨k, rfl⟩ : ∃ e, k = e + 1 := ⟨k - 1, by omega⟩
      rw [b_X9_lapseAll_2, h.2.1, if_pos (nI_le (by omega) (by omega))]
      have e : j = N := by omega
      subst e
      exact ⟨z, rfl, h, fN.rf⟩
    | succ m ih =>
      intro j k z h hL hj hk
      obtain ⟨k, rfl⟩ : ∃ e, k = e + 1 := ⟨k - 1, by omega⟩
      rw [b_X9_lapseAll_2, h.2.1, if_neg (nI_ge (by omega) (by omega)), h.2.2.1]
      obtain ⟨z1, g1, g2, g3⟩ := M_lapsePP (n := n) hn (show j < 5 by omega) (h.2.2.2 j (by omega)) hL hl hw
      rw [g1, ob, li1, nI_add]
      obtain ⟨z2, k1, k2, k3⟩ := ih (j + 1) k z1 ((h.set g3.fQ g2).eq (fun i _ => tG_succ _ _ _ _)) (g3.fQ.mL hL) (by omega) (by omega)
      exact ⟨z2, k1, k2, (g3.fQ.fN (by omega)).tr k3⟩
  unfold f_X9_lapseAll
  exact lp N 0 n z (h.eq (fun i _ => tG_0 _ _ _)) hL (by omega) (by omega)
theorem M_goWeek {n N w : Nat} {l : LW} {T : Nat → PS} {z : am_X} (hn : 100 ≤ n) (hl : l.2.2.2 ≤ 9) (hw : w < 99999) (h : mT z N w T) (hL : mL z l) : ∃ z', f_X9_goWeek n 0 z = some z' ∧ mT z' N (w + 1) (tG (pEnt l (w + 1)) N T) ∧ fN z z' := by
  have h4 := h.1
  have lp : ∀ (m j k : Nat) (z : am_X), mT z N (w + 1) (tG (fun P => (pK P, (pG P, (pO P, (0, (pZ P, pC P)))))) j T) → mL z l → j + m = N → m < k → ∃ z', b_X9_goWeek_12 n k 0 (nI j) z = some z' ∧ mT z' N (w + 1) (tG (pEnt l (w + 1)) N T) ∧ fN z z' := by
    intro m
    induction m with
    | zero =>
      intro j k z h hL hj hk
      obtain ⟨k, rfl⟩ : ∃ e, k = e + 1 := ⟨k - 1, by omega⟩
      rw [b_X9_goWeek_12, h.2.1, if_pos (nI_le (by omega) (by omega))]
      obtain ⟨z1, g1, g2, g3⟩ := M_lapseAll (n := n) hn hl (show w + 1 < 100000 by omega) h hL
      rw [g1, ob]
      have e : j = N := by omega
      subst e
      refine ⟨z1, rfl, g2.eq (fun i hi => ?_), g3⟩
      unfold tG
      rw [if_pos hi, if_pos hi, if_pos hi]
      rfl
    | succ m ih =>
      intro j k z h hL hj hk
      obtain ⟨k, rfl⟩ : ∃ e, k = e + 1 := ⟨k - 1, by omega⟩
      have hj4 : j < 4 := by omega
      rw [b_X9_goWeek_12, h.2.1, if_neg (nI_ge (by omega) (by omega)), if_pos (am_inB_nI (by omega) (by omega)), nI_c (by omega), li1, nI_add]
      have hk2 : fN z (sA z 51 0 j (0 : Int32)) := fN.put hj4 (by omega) (by omega)
      have h2 : mT (sA z 51 0 j (0 : Int32)) N (w + 1) (tG (fun P => (pK P, (pG P, (pO P, (0, (pZ P, pC P)))))) (j + 1) T) := by
        refine ⟨h.1, h.2.1, h.2.2.1, fun p hp => ?_⟩
        have hc := h.2.2.2 p hp
        rw [tG_succ]
        have e : ∀ (t i q : Nat), ¬ (t = 51 ∧ i = 0 ∧ q = j) → xA (sA z 51 0 j (0 : Int32)) t i q = xA z t i q := fun t i q hne => by rw [xA_sA, if_neg hne]
        by_cases ep : p = j
        · rw [if_pos ep, ep]
          have hc := h.2.2.2 j (by omega)
          exact ⟨⟨hc.1.1, hc.1.2.1, by rw [e _ _ _ (by omega)]; exact hc.1.2.2.1, by rw [e _ _ _ (by omega)]; exact hc.1.2.2.2.1, by rw [e _ _ _ (by omega)]; exact hc.1.2.2.2.2.1, by rw [e _ _ _ (by omega)]; exact hc.1.2.2.2.2.2.1, hc.1.2.2.2.2.2.2.1, hc.1.2.2.2.2.2.2.2.1, fun k hk => by rw [e _ _ _ (by omega)]; exact hc.1.2.2.2.2.2.2.2.2 k hk⟩, Nat.zero_le _, hc.2.2.1, by rw [xA_sA, if_pos ⟨rfl, rfl, rfl⟩]; rfl, by rw [e _ _ _ (by omega)]; exact hc.2.2.2.2⟩
        · rw [if_neg ep]
          exact ⟨⟨hc.1.1, hc.1.2.1, by rw [e _ _ _ (by omega)]; exact hc.1.2.2.1, by rw [e _ _ _ (by omega)]; exact hc.1.2.2.2.1, by rw [e _ _ _ (by omega)]; exact hc.1.2.2.2.2.1, by rw [e _ _ _ (by omega)]; exact hc.1.2.2.2.2.2.1, hc.1.2.2.2.2.2.2.1, hc.1.2.2.2.2.2.2.2.1, fun k hk => by rw [e _ _ _ (by omega)]; exact hc.1.2.2.2.2.2.2.2.2 k hk⟩, hc.2.1, hc.2.2.1, by rw [e _ _ _ (by omega)]; exact hc.2.2.2.1, by rw [e _ _ _ (by omega)]; exact hc.2.2.2.2⟩
      obtain ⟨z2, k1, k2, k3⟩ := ih (j + 1) k _ h2 (hk2.mL hL) (by omega) (by omega)
      exact ⟨z2, k1, k2, hk2.tr k3⟩
  unfold f_X9_goWeek
  rw [h.2.2.1, li1, nI_add]
  have h0 : mT (sF z 32 6 0 (nI (w + 1))) N (w + 1) (tG (fun P => (pK P, (pG P, (pO P, (0, (pZ P, pC P)))))) 0 T) := ⟨h.1, by rw [xF_sF, if_neg (by omega)]; exact h.2.1, by rw [xF_sF, if_pos ⟨rfl, rfl, rfl⟩], fun p hp => by rw [tG_0]; exact h.2.2.2 p hp⟩
  obtain ⟨z', g1, g2, g3⟩ := lp N 0 n _ h0 (fN.week.mL hL) (by omega) (by omega)
  exact ⟨z', g1, g2, fN.week.tr g3⟩
theorem M_owesAll {n N w : Nat} {T : Nat → PS} {z : am_X} (hn : 100 ≤ n) (h : mT z N w T) : f_X9_owesAll n 0 z = some (tS (fun i => nI (pO (T i))) N, z) := by
  have h4 := h.1
  have lp : ∀ (m j k : Nat), j + m = N → m < k → b_X9_owesAll_4 n k 0 (tS (fun i => nI (pO (T i))) j) (nI j) z = some (tS (fun i => nI (pO (T i))) N, z) := by
    intro m
    induction m with
    | zero =>
      intro j k hj hk
      obtain ⟨k, rfl⟩ : ∃ e, k = e + 1 := ⟨k - 1, by omega⟩
      rw [b_X9_owesAll_4, h.2.1, if_pos (nI_le (by omega) (by omega)), show j = N from by omega]
    | succ m ih =>
      intro j k hj hk
      obtain ⟨k, rfl⟩ : ∃ e, k = e + 1 := ⟨k - 1, by omega⟩
      rw [b_X9_owesAll_4, h.2.1, if_neg (nI_ge (by omega) (by omega)), if_pos (am_inB_nI (by omega) (by omega)), nI_c (by omega), (h.2.2.2 j (by omega)).1.2.2.2.2.1, li1, nI_add]
      exact ih (j + 1) k (by omega) (by omega)
  unfold f_X9_owesAll
  exact lp N 0 n (by omega) (by omega)
theorem M_gotAll {n N w : Nat} {T : Nat → PS} {z : am_X} (hn : 100 ≤ n) (h : mT z N w T) : f_X9_gotAll n 0 z = some (tS (fun i => pG (T i)) N, z) := by
  have h4 := h.1
  have lp : ∀ (m j k : Nat), j + m = N → m < k → b_X9_gotAll_4 n k 0 (tS (fun i => pG (T i)) j) (nI j) z = some (tS (fun i => pG (T i)) N, z) := by
    intro m
    induction m with
    | zero =>
      intro j k hj hk
      obtain ⟨k, rfl⟩ : ∃ e, k = e + 1 := ⟨k - 1, by omega⟩
      rw [b_X9_gotAll_4, h.2.1, if_pos (nI_le (by omega) (by omega)), show j = N from by omega]
    | succ m ih =>
      intro j k hj hk
      obtain ⟨k, rfl⟩ : ∃ e, k = e + 1 := ⟨k - 1, by omega⟩
      rw [b_X9_gotAll_4, h.2.1, if_neg (nI_ge (by omega) (by omega)), if_pos (am_inB_nI (by omega) (by omega)), nI_c (by omega), (h.2.2.2 j (by omega)).1.2.2.2.1, li1, nI_add]
      exact ih (j + 1) k (by omega) (by omega)
  unfold f_X9_gotAll
  exact lp N 0 n (by omega) (by omega)
theorem M_goneMany {n N w : Nat} {T : Nat → PS} {z : am_X} (hn : 100 ≤ n) (h : mT z N w T) : f_X9_goneMany n 0 z = some (tS (fun i => nI (pZ (T i))) N, z) := by
  have h4 := h.1
  have lp : ∀ (m j k : Nat), j + m = N → m < k → b_X9_goneMany_4 n k 0 (tS (fun i => nI (pZ (T i))) j) (nI j) z = some (tS (fun i => nI (pZ (T i))) N, z) := by
    intro m
    induction m with
    | zero =>
      intro j k hj hk
      obtain ⟨k, rfl⟩ : ∃ e, k = e + 1 := ⟨k - 1, by omega⟩
      rw [b_X9_goneMany_4, h.2.1, if_pos (nI_le (by omega) (by omega)), show j = N from by omega]
    | succ m ih =>
      intro j k hj hk
      obtain ⟨k, rfl⟩ : ∃ e, k = e + 1 := ⟨k - 1, by omega⟩
      rw [b_X9_goneMany_4, h.2.1, if_neg (nI_ge (by omega) (by omega)), if_pos (am_inB_nI (by omega) (by omega)), nI_c (by omega), (h.2.2.2 j (by omega)).2.2.2.2, li1, nI_add]
      exact ih (j + 1) k (by omega) (by omega)
  unfold f_X9_goneMany
  exact lp N 0 n (by omega) (by omega)
theorem M_creditsAll {n N w : Nat} {T : Nat → PS} {z : am_X} (hn : 100 ≤ n) (h : mT z N w T) : f_X9_creditsAll n 0 z = some (tS (fun i => nI (pC (T i)).length) N, z) := by
  have h4 := h.1
  have lp : ∀ (m j k : Nat), j + m = N → m < k → b_X9_creditsAll_4 n k 0 (tS (fun i => nI (pC (T i)).length) j) (nI j) z = some (tS (fun i => nI (pC (T i)).length) N, z) := by
    intro m
    induction m with
    | zero =>
      intro j k hj hk
      obtain ⟨k, rfl⟩ : ∃ e, k = e + 1 := ⟨k - 1, by omega⟩
      rw [b_X9_creditsAll_4, h.2.1, if_pos (nI_le (by omega) (by omega)), show j = N from by omega]
    | succ m ih =>
      intro j k hj hk
      obtain ⟨k, rfl⟩ : ∃ e, k = e + 1 := ⟨k - 1, by omega⟩
      rw [b_X9_creditsAll_4, h.2.1, if_neg (nI_ge (by omega) (by omega)), if_pos (am_inB_nI (by omega) (by omega)), nI_c (by omega), (h.2.2.2 j (by omega)).1.2.2.2.2.2.1, li1, nI_add]
      exact ih (j + 1) k (by omega) (by omega)
  unfold f_X9_creditsAll
  exact lp N 0 n (by omega) (by omega)
