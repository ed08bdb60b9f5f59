/-! calls: image, restore -/
theorem M_im2 {n : Nat} : ∀ (m q k : Nat) (z : am_X), (∀ r, r < q → xA z 99 0 r = xA z 54 0 r) → q + m = 48 → m < k → ∃ z', b_X9_image_96 n k 0 (nI q) z = some (xF z 32 6 0, z') ∧ (∀ r, r < 48 → xA z' 99 0 r = xA z 54 0 r) ∧ (∀ t k j, xF z' t k j = xF z t k j) ∧ (∀ t i q, t ≠ 99 → xA z' t i q = xA z t i q) := by
  intro m
  induction m with
  | zero =>
    intro q k z h hq hk
    obtain ⟨k, rfl⟩ : ∃ e, k = e + 1 := ⟨k - 1, by omega⟩
    refine ⟨z, ?_, fun r hr => h r (by omega), fun _ _ _ => rfl, fun _ _ _ _ => rfl⟩
    rw [b_X9_image_96, if_pos (show (48 : Int32) ≤ nI q from nI_le (a := 48) (by omega) (by omega))]
  | succ m ih =>
    intro q k z h hq hk
    obtain ⟨k, rfl⟩ : ∃ e, k = e + 1 := ⟨k - 1, by omega⟩
    rw [b_X9_image_96, if_neg (show ¬ (48 : Int32) ≤ nI q from nI_ge (b := 48) (by omega) (by omega)), if_pos (am_inB_nI (by omega) (by omega)), if_pos (am_inB_nI (by omega) (by omega)), nI_c (by omega), show nI q + (1 : Int32) = nI (q + 1) from nI_add ..]
    obtain ⟨z', g1, g2, g3, g4⟩ := ih (q + 1) k (sA z 99 0 q (xA z 54 0 q)) (fun r hr => by
      rw [xA_sA, xA_sA, if_neg (show ¬ (54 = 99 ∧ 0 = 0 ∧ r = q) by omega)]
      by_cases e : r = q
      · rw [if_pos ⟨rfl, rfl, e⟩, e]
      · rw [if_neg (by omega)]; exact h r (by omega)) (by omega) (by omega)
    refine ⟨z', g1, fun r hr => ?_, fun t k j => ?_, fun t i r hr => ?_⟩
    · rw [g2 r hr, xA_sA, if_neg (by omega)]
    · rw [g3, xF_sA]
    · rw [g4 t i r hr, xA_sA, if_neg (by omega)]
theorem M_re2 {n : Nat} : ∀ (m q k : Nat) (z : am_X), (∀ r, r < q → xA z 54 0 r = xA z 99 0 r) → q + m = 48 → m < k → ∃ z', b_X9_restore_111 n k 0 (nI q) z = ((f_X9_lapseAll n 0 z').bind fun q2 => some ((xF q2 32 6 0), q2)) ∧ (∀ r, r < 48 → xA z' 54 0 r = xA z 99 0 r) ∧ (∀ t k j, xF z' t k j = xF z t k j) ∧ (∀ t i q, t ≠ 54 → xA z' t i q = xA z t i q) := by
  intro m
  induction m with
  | zero =>
    intro q k z h hq hk
    obtain ⟨k, rfl⟩ : ∃ e, k = e + 1 := ⟨k - 1, by omega⟩
    refine ⟨z, ?_, fun r hr => h r (by omega), fun _ _ _ => rfl, fun _ _ _ _ => rfl⟩
    rw [b_X9_restore_111, if_pos (show (48 : Int32) ≤ nI q from nI_le (a := 48) (by omega) (by omega))]
  | succ m ih =>
    intro q k z h hq hk
    obtain ⟨k, rfl⟩ : ∃ e, k = e + 1 := ⟨k - 1, by omega⟩
    rw [b_X9_restore_111, if_neg (show ¬ (48 : Int32) ≤ nI q from nI_ge (b := 48) (by omega) (by omega)), if_pos (am_inB_nI (by omega) (by omega)), if_pos (am_inB_nI (by omega) (by omega)), nI_c (by omega), show nI q + (1 : Int32) = nI (q + 1) from nI_add ..]
    obtain ⟨z', g1, g2, g3, g4⟩ := ih (q + 1) k (sA z 54 0 q (xA z 99 0 q)) (fun r hr => by
      rw [xA_sA, xA_sA, if_neg (show ¬ (99 = 54 ∧ 0 = 0 ∧ r = q) by omega)]
      by_cases e : r = q
      · rw [if_pos ⟨rfl, rfl, e⟩, e]
      · rw [if_neg (by omega)]; exact h r (by omega)) (by omega) (by omega)
    refine ⟨z', g1, fun r hr => ?_, fun t k j => ?_, fun t i r hr => ?_⟩
    · rw [g2 r hr, xA_sA, if_neg (by omega)]
    · rw [g3, xF_sA]
    · rw [g4 t i r hr, xA_sA, if_neg (by omega)]
theorem M_im1 {n : Nat} : ∀ (m q k : Nat) (z : am_X), (∀ r, r < q → ∀ s, s < 5 → xA z (94 + s) 0 r = xA z (49 + s) 0 r) → q + m = 4 → m < k → ∃ z', b_X9_image_23 n k 0 (nI q) z = b_X9_image_96 n n 0 (nI 0) z' ∧ (∀ r, r < 4 → ∀ s, s < 5 → xA z' (94 + s) 0 r = xA z (49 + s) 0 r) ∧ (∀ t k j, xF z' t k j = xF z t k j) ∧ (∀ t i q, ¬ (94 ≤ t ∧ t ≤ 98) → xA z' t i q = xA z t i q) := by
  intro m
  induction m with
  | zero =>
    intro q k z h hq hk
    obtain ⟨k, rfl⟩ : ∃ e, k = e + 1 := ⟨k - 1, by omega⟩
    refine ⟨z, ?_, fun r hr => h r (by omega), fun _ _ _ => rfl, fun _ _ _ _ => rfl⟩
    rw [b_X9_image_23, if_pos (show (4 : Int32) ≤ nI q from nI_le (a := 4) (by omega) (by omega))]
    rfl
  | succ m ih =>
    intro q k z h hq hk
    obtain ⟨k, rfl⟩ : ∃ e, k = e + 1 := ⟨k - 1, by omega⟩
    have i4 : am_inB (nI q) 4 = true := am_inB_nI (by omega) (by omega)
    have i5 : am_inB (nI q) 5 = true := am_inB_nI (by omega) (by omega)
    rw [b_X9_image_23, if_neg (show ¬ (4 : Int32) ≤ nI q from nI_ge (b := 4) (by omega) (by omega)), if_pos i5, if_pos i4, if_pos i5, if_pos i4, if_pos i5, if_pos i4, if_pos i5, if_pos i4, if_pos i5, if_pos i4, nI_c (by omega), show nI q + (1 : Int32) = nI (q + 1) from nI_add ..]
    have o : ∀ t i r, ¬ ((94 ≤ t ∧ t ≤ 98) ∧ r = q) → xA (sA (sA (sA (sA (sA z 94 0 q (xA z 49 0 q)) 95 0 q (xA z 50 0 q)) 96 0 q (xA z 51 0 q)) 97 0 q (xA z 52 0 q)) 98 0 q (xA z 53 0 q)) t i r = xA z t i r := fun t i r a => by
      rw [xA_sA, if_neg (by omega), xA_sA, if_neg (by omega), xA_sA, if_neg (by omega), xA_sA, if_neg (by omega), xA_sA, if_neg (by omega)]
    obtain ⟨z', g1, g2, g3, g4⟩ := ih (q + 1) k _ (fun r hr s hs => by
      rw [o (49 + s) 0 r (by omega)]
      by_cases e : r = q
      · rw [e]
        rcases (show s = 0 ∨ s = 1 ∨ s = 2 ∨ s = 3 ∨ s = 4 by omega) with e | e | e | e | e <;> rw [e]
        · rw [xA_sA, if_neg (by omega), xA_sA, if_neg (by omega), xA_sA, if_neg (by omega), xA_sA, if_neg (by omega), xA_sA, if_pos ⟨rfl, rfl, rfl⟩]
        · rw [xA_sA, if_neg (by omega), xA_sA, if_neg (by omega), xA_sA, if_neg (by omega), xA_sA, if_pos ⟨rfl, rfl, rfl⟩]
        · rw [xA_sA, if_neg (by omega), xA_sA, if_neg (by omega), xA_sA, if_pos ⟨rfl, rfl, rfl⟩]
        · rw [xA_sA, if_neg (by omega), xA_sA, if_pos ⟨rfl, rfl, rfl⟩]
        · rw [xA_sA, if_pos ⟨rfl, rfl, rfl⟩]
      · rw [o _ _ _ (by omega)]; exact h r (by omega) s hs) (by omega) (by omega)
    refine ⟨z', g1, fun r hr s hs => ?_, fun t k j => ?_, fun t i r hr => ?_⟩
    · rw [g2 r hr s hs, o _ _ _ (by omega)]
    · rw [g3, xF_sA, xF_sA, xF_sA, xF_sA, xF_sA]
    · rw [g4 t i r hr, o _ _ _ (by omega)]
theorem M_re1 {n : Nat} : ∀ (m q k : Nat) (z : am_X), (∀ r, r < q → ∀ s, s < 5 → xA z (49 + s) 0 r = xA z (94 + s) 0 r) → q + m = 4 → m < k → ∃ z', b_X9_restore_38 n k 0 (nI q) z = b_X9_restore_111 n n 0 (nI 0) z' ∧ (∀ r, r < 4 → ∀ s, s < 5 → xA z' (49 + s) 0 r = xA z (94 + s) 0 r) ∧ (∀ t k j, xF z' t k j = xF z t k j) ∧ (∀ t i q, ¬ (49 ≤ t ∧ t ≤ 53) → xA z' t i q = xA z t i q) := by
  intro m
  induction m with
  | zero =>
    intro q k z h hq hk
    obtain ⟨k, rfl⟩ : ∃ e, k = e + 1 := ⟨k - 1, by omega⟩
    refine ⟨z, ?_, fun r hr => h r (by omega), fun _ _ _ => rfl, fun _ _ _ _ => rfl⟩
    rw [b_X9_restore_38, if_pos (show (4 : Int32) ≤ nI q from nI_le (a := 4) (by omega) (by omega))]
    rfl
  | succ m ih =>
    intro q k z h hq hk
    obtain ⟨k, rfl⟩ : ∃ e, k = e + 1 := ⟨k - 1, by omega⟩
    have i4 : am_inB (nI q) 4 = true := am_inB_nI (by omega) (by omega)
    have i5 : am_inB (nI q) 5 = true := am_inB_nI (by omega) (by omega)
    rw [b_X9_restore_38, if_neg (show ¬ (4 : Int32) ≤ nI q from nI_ge (b := 4) (by omega) (by omega)), if_pos i4, if_pos i5, if_pos i4, if_pos i5, if_pos i4, if_pos i5, if_pos i4, if_pos i5, if_pos i4, if_pos i5, nI_c (by omega), show nI q + (1 : Int32) = nI (q + 1) from nI_add ..]
    have o : ∀ t i r, ¬ ((49 ≤ t ∧ t ≤ 53) ∧ r = q) → xA (sA (sA (sA (sA (sA z 49 0 q (xA z 94 0 q)) 50 0 q (xA z 95 0 q)) 51 0 q (xA z 96 0 q)) 52 0 q (xA z 97 0 q)) 53 0 q (xA z 98 0 q)) t i r = xA z t i r := fun t i r a => by
      rw [xA_sA, if_neg (by omega), xA_sA, if_neg (by omega), xA_sA, if_neg (by omega), xA_sA, if_neg (by omega), xA_sA, if_neg (by omega)]
    obtain ⟨z', g1, g2, g3, g4⟩ := ih (q + 1) k _ (fun r hr s hs => by
      rw [o (94 + s) 0 r (by omega)]
      by_cases e : r = q
      · rw [e]
        rcases (show s = 0 ∨ s = 1 ∨ s = 2 ∨ s = 3 ∨ s = 4 by omega) with e | e | e | e | e <;> rw [e]
        · rw [xA_sA, if_neg (by omega), xA_sA, if_neg (by omega), xA_sA, if_neg (by omega), xA_sA, if_neg (by omega), xA_sA, if_pos ⟨rfl, rfl, rfl⟩]
        · rw [xA_sA, if_neg (by omega), xA_sA, if_neg (by omega), xA_sA, if_neg (by omega), xA_sA, if_pos ⟨rfl, rfl, rfl⟩]
        · rw [xA_sA, if_neg (by omega), xA_sA, if_neg (by omega), xA_sA, if_pos ⟨rfl, rfl, rfl⟩]
        · rw [xA_sA, if_neg (by omega), xA_sA, if_pos ⟨rfl, rfl, rfl⟩]
        · rw [xA_sA, if_pos ⟨rfl, rfl, rfl⟩]
      · rw [o _ _ _ (by omega)]; exact h r (by omega) s hs) (by omega) (by omega)
    refine ⟨z', g1, fun r hr s hs => ?_, fun t k j => ?_, fun t i r hr => ?_⟩
    · rw [g2 r hr s hs, o _ _ _ (by omega)]
    · rw [g3, xF_sA, xF_sA, xF_sA, xF_sA, xF_sA]
    · rw [g4 t i r hr, o _ _ _ (by omega)]
section O8
variable {n tm : Nat} {x z : am_X}
theorem O_image (hn : 100 ≤ n) (ht : tm < 1000) (hk : ∀ i, xK x i < 5) (h : Rel tm x z) : Ok tm (f_X8_image n 0 x) (f_X9_image n 0 z) := by
  obtain ⟨lr, g, a, l, N, w, T, pi, Np, wp, Tp, ls, bg, tl, sw, B, h1, h2, h3⟩ := h
  have hc := h1.2.2.1
  have hm := h2.2.2.1
  have h4 := hc.1
  unfold f_X8_image f_X9_image
  obtain ⟨x1, g1, g2, g3⟩ := S_copyT (n := n) (t := 1) hn (by omega) hc
  obtain ⟨z1, k1, k2, k3, k4⟩ := M_im1 (n := n) 4 0 n (sF (sF (sF z 32 51 0 1) 32 52 0 (xF z 32 6 0)) 32 53 0 (xF z 32 7 0)) (fun r hr => absurd hr (Nat.not_lt_zero r)) (by omega) (by omega)
  obtain ⟨z2, k5, k6, k7, k8⟩ := M_im2 (n := n) 48 0 n z1 (fun r hr => absurd hr (Nat.not_lt_zero r)) (by omega) (by omega)
  have q1 : ∀ t k j, ¬ (t = 32 ∧ (k = 51 ∨ k = 52 ∨ k = 53)) → xF z2 t k j = xF z t k j := fun t k j o => by
    rw [k7, k3, xF_sF, if_neg (by omega), xF_sF, if_neg (by omega), xF_sF, if_neg (by omega)]
  have q2 : ∀ t i q, ¬ (94 ≤ t ∧ t ≤ 99) → xA z2 t i q = xA z t i q := fun t i q o => by
    rw [k8 _ _ _ (by omega), k4 _ _ _ (by omega)]; rfl
  have c0 := g3.cT (t' := 0) (by omega) hc
  have e1 : RC x1 lr g a l N w T pi N w T ls bg tl sw B :=
    ⟨g3.eX.A (by intro k; omega) h1.1, g3.eX.L (by omega) (by omega) h1.2.1, c0, g2, g3.eX.G (by omega) (by omega) h1.2.2.2.2.1, g3.eX.B (by intro k; omega) (by omega) h1.2.2.2.2.2.1, g3.eX.B2 (by omega) (by intro k; omega) (by omega) h1.2.2.2.2.2.2⟩
  refine ⟨nI w, sF x1 0 8 0 1, z2, ?_, ?_, Rel.up ⟨lr, g, a, l, N, w, T, 1, N, w, T, ls, bg, tl, sw, B, ?_, ?_, ?_⟩ ht, fun i => fT_K g3 g2 hk i⟩
  · rw [g1, ob, c0.2.2.1]
  · rw [show (0 : Int32) = nI 0 from rfl, k1, k5, k3, xF_sF, if_neg (by omega), xF_sF, if_neg (by omega), xF_sF, if_neg (by omega), hm.2.2.1]
  · have e : eX (fun t k _ => t = 0 ∧ k = 8) (fun t _ => t = 1000) x1 (sF x1 0 8 0 1) := ⟨fun t k i o => by rw [xF_sF, if_neg (by omega)], fun _ _ _ _ => rfl, fun _ _ => rfl⟩
    obtain ⟨⟨a1, a2, a3, a4⟩, e2⟩ := e1
    exact ⟨⟨by rw [xF_sF, if_neg (by omega)]; exact a1, by rw [xF_sF, if_neg (by omega)]; exact a2, by rw [xF_sF, if_neg (by omega)]; exact a3, by rw [xF_sF, if_pos ⟨rfl, rfl, rfl⟩]; rfl⟩, e.L (by omega) (by omega) e2.1, e.T (by intro k; omega) (by intro i _ k; omega) (by intro i _; omega) e2.2.1, e.T (by intro k; omega) (by intro i _ k; omega) (by intro i _; omega) e2.2.2.1, e.G (by omega) (by omega) e2.2.2.2.1, e.B (by intro k; omega) (by omega) e2.2.2.2.2.1, e.B2 (by omega) (by intro k; omega) (by omega) e2.2.2.2.2.2⟩
  · have e : eY (fun k => k = 51 ∨ k = 52 ∨ k = 53) (fun t _ => 94 ≤ t ∧ t ≤ 99) z z2 := ⟨fun k o => q1 _ _ _ (by omega), fun t q o => q2 _ _ _ o⟩
    obtain ⟨a1, a2, a3, a4, a5⟩ := h2.1
    refine ⟨⟨by rw [q1 _ _ _ (by omega)]; exact a1, by rw [q1 _ _ _ (by omega)]; exact a2, by rw [q1 _ _ _ (by omega)]; exact a3, by rw [q1 _ _ _ (by omega)]; exact a4, ?_⟩, e.L (by omega) (by omega) h2.2.1, e.T (by omega) (by omega) (by omega) hm, ⟨?_, ?_, fun p hp => ?_⟩, e.G (by omega) (by omega) h2.2.2.2.2.1, e.B (by omega) (by omega) h2.2.2.2.2.2.1, e.B2 (by omega) (by omega) h2.2.2.2.2.2.2⟩
    · rw [k7, k3, xF_sF, if_neg (by omega), xF_sF, if_neg (by omega), xF_sF, if_pos ⟨rfl, rfl, rfl⟩]; rfl
    · rw [k7, k3, xF_sF, if_pos ⟨rfl, rfl, rfl⟩]; exact hm.2.1
    · rw [k7, k3, xF_sF, if_neg (by omega), xF_sF, if_pos ⟨rfl, rfl, rfl⟩]; exact hm.2.2.1
    · have hQ := hm.2.2.2 p hp
      have r : ∀ s, s < 5 → xA z2 (94 + s) 0 p = xA z (49 + s) 0 p := fun s hs => by rw [k8 _ _ _ (by omega), k2 p (by omega) s hs]; rfl
      refine ⟨(r 0 (by omega)).trans hQ.1.2.2.2.1, (r 1 (by omega)).trans hQ.1.2.2.2.2.1, (r 2 (by omega)).trans hQ.2.2.2.1, (r 3 (by omega)).trans hQ.2.2.2.2, (r 4 (by omega)).trans hQ.1.2.2.2.2.2.1, fun k hk => ?_⟩
      have := hQ.1.2.2.2.2.2.2.1
      rw [k6 _ (by omega), k4 _ _ _ (by omega)]
      exact hQ.1.2.2.2.2.2.2.2.2 k hk
  · obtain ⟨i1, i2, i3, i4, i5, i6, i7, i8, i9, i10, i11⟩ := h3
    exact ⟨⟨i1.1, i1.2.1, i1.2.1, i1.2.2.2.1, i1.2.2.2.2⟩, ⟨i2.1, i2.2.1, Nat.le_refl 1, i2.2.2.2⟩, ⟨i3.1, Nat.le_refl N, fun e => absurd e (by omega)⟩, i4, i5, i6, i7, i8, i9, i10, fun i _ => rfl⟩
theorem O_restore (hn : 100 ≤ n) (ht : tm < 1000) (hk : ∀ i, xK x i < 5) (h : Rel tm x z) : Ok tm (f_X8_restore n 0 x) (f_X9_restore n 0 z) := by
  have h0 := h
  obtain ⟨lr, g, a, l, N, w, T, pi, Np, wp, Tp, ls, bg, tl, sw, B, h1, h2, h3⟩ := h
  have hc := h1.2.2.1
  have hcp := h1.2.2.2.1
  have hm := h2.2.2.1
  have h4 := hc.1
  have hpi := h3.2.1.2.2.1
  unfold f_X8_restore f_X9_restore
  rw [h1.1.2.2.2, h2.1.2.2.2.2]
  by_cases e : pi = 0
  · refine Ok.same0 (v := -103) h0 hk ht ?_ ?_
    · rw [e, if_neg (fun w => w rfl)]
    · rw [e, if_neg (fun w => w rfl)]
  · have e1 : pi = 1 := by omega
    subst e1
    rw [if_pos (show ¬ nI 1 = 0 from n10), if_pos (show ¬ nI 1 = 0 from n10)]
    have hl9 := h3.2.2.2.2.2.1.1
    have hw := h3.1.2.2
    obtain ⟨x1, g1, g2, g3⟩ := S_copyT (n := n) (t := 0) hn (by omega) hcp
    obtain ⟨x2, g4, g5, g6⟩ := S_dropLT (n := n) hn hl9 (by omega) g2 (g3.cL h1.2.1)
    obtain ⟨z1, k1, k2, k3, k4⟩ := M_re1 (n := n) 4 0 n (sF (sF (sF (sF z 32 6 0 (xF z 32 52 0)) 32 7 0 (xF z 32 53 0)) 32 32 0 (-1)) 32 33 0 0) (fun r hr => absurd hr (Nat.not_lt_zero r)) (by omega) (by omega)
    obtain ⟨z2, k5, k6, k7, k8⟩ := M_re2 (n := n) 48 0 n z1 (fun r hr => absurd hr (Nat.not_lt_zero r)) (by omega) (by omega)
    have q1 : ∀ t k j, ¬ (t = 32 ∧ (k = 6 ∨ k = 7 ∨ k = 32 ∨ k = 33)) → xF z2 t k j = xF z t k j := fun t k j o => by
      rw [k7, k3, xF_sF, if_neg (by omega), xF_sF, if_neg (by omega), xF_sF, if_neg (by omega), xF_sF, if_neg (by omega)]
    have q2 : ∀ t i q, ¬ (49 ≤ t ∧ t ≤ 54) → xA z2 t i q = xA z t i q := fun t i q o => by
      rw [k8 _ _ _ (by omega), k4 _ _ _ (by omega)]; rfl
    have e : eY (fun k => k = 6 ∨ k = 7 ∨ k = 32 ∨ k = 33) (fun t _ => 49 ≤ t ∧ t ≤ 54) z z2 := ⟨fun k o => q1 _ _ _ (by omega), fun t q o => q2 _ _ _ o⟩
    have hNp := h3.2.2.1.2.1
    have m1 : mT z2 Np wp Tp := by
      refine ⟨by omega, ?_, ?_, fun p hp => ?_⟩
      · rw [k7, k3, xF_sF, if_neg (by omega), xF_sF, if_neg (by omega), xF_sF, if_pos ⟨rfl, rfl, rfl⟩]; exact h2.2.2.2.1.1
      · rw [k7, k3, xF_sF, if_neg (by omega), xF_sF, if_neg (by omega), xF_sF, if_neg (by omega), xF_sF, if_pos ⟨rfl, rfl, rfl⟩]; exact h2.2.2.2.1.2.1
      · have hI := h2.2.2.2.1.2.2 p hp
        have hP := hcp.2.2.2 p (by omega)
        have r : ∀ s, s < 5 → xA z2 (49 + s) 0 p = xA z (94 + s) 0 p := fun s hs => by rw [k8 _ _ _ (by omega), k2 p (by omega) s hs]; rfl
        have hC := hP.2.2.2.2.2.2
        refine ⟨⟨hP.1.1, hP.1.2.1, ?_, (r 0 (by omega)).trans hI.1, (r 1 (by omega)).trans hI.2.1, (r 4 (by omega)).trans hI.2.2.2.2.1, hC.2.1, hC.2.2.1, fun k hk => ?_⟩, hP.1.2.2.1, hP.1.2.2.2, (r 2 (by omega)).trans hI.2.2.1, (r 3 (by omega)).trans hI.2.2.2.1⟩
        · rw [q2 _ _ _ (by omega), ← h3.2.2.2.2.2.2.2.2.2.2 p hp]
          exact (hm.2.2.2 p (by omega)).1.2.2.1
        · have := hC.2.1
          rw [k6 _ (by omega), k4 _ _ _ (by omega)]
          exact hI.2.2.2.2.2 k hk
    obtain ⟨z3, k9, k10, k11⟩ := M_lapseAll (n := n) hn hl9 (by omega) m1 (e.L (by omega) (by omega) h2.2.1)
    have R1 := RC_town h1 (g3.tr g6) g5
    have e3 : eY (fun k => k = 6 ∨ k = 7 ∨ k = 32 ∨ k = 33) (fun t q => 49 ≤ t ∧ t ≤ 54 ∨ tA t q) z z3 := ⟨fun k o => by rw [k11.eY.1 k (by unfold tF; omega), e.1 k (by omega)], fun t q o => by rw [k11.eY.2 t q (fun w => o (Or.inr w)), e.2 t q (fun w => o (Or.inl w))]⟩
    refine ⟨nI wp, sF (sF x2 7 2 0 0) 7 3 0 0, z3, ?_, ?_, Rel.up ⟨lr, g, a, l, Np, wp, tG (pLap l wp) Np Tp, 1, Np, wp, Tp, ls, 0, [], sw, B, RC_book R1 ?_ ?_ ?_, ?_, ?_⟩ ht, ?_⟩
    · rw [g1, ob, g4, ob]
      unfold f_X4_close
      rw [ob, xF_sF, if_neg (by omega), xF_sF, if_neg (by omega), g5.2.2.1]
    · rw [show (0 : Int32) = nI 0 from rfl] at k1
      have k1' := k1
      rw [k5, k9, ob, k10.2.2.1] at k1'
      exact k1'
    · exact ⟨fun t k i o => by rw [xF_sF, if_neg (by omega), xF_sF, if_neg (by omega)], fun t i q o => rfl, fun i o => rfl⟩
    · exact ⟨by rw [xF_sF, if_neg (by omega), xF_sF, if_pos ⟨rfl, rfl, rfl⟩]; rfl, by rw [xF_sF, if_pos ⟨rfl, rfl, rfl⟩]; rfl, fun k hk => absurd hk (Nat.not_lt_zero k)⟩
    · exact fun e => absurd e (by omega)
    · refine ⟨e3.A (by omega) h2.1, e3.L (by omega) (by intro d; unfold tA; omega) h2.2.1, k10, e3.I (by omega) (by intro t q _ _; unfold tA; omega) h2.2.2.2.1, e3.G (by omega) (by intro q; unfold tA; omega) h2.2.2.2.2.1, ⟨?_, ?_, fun k hk => absurd hk (Nat.not_lt_zero k)⟩, fun e => absurd e (by omega)⟩
      · rw [if_neg (by omega), k11.1 _ _ _ (by omega), k7, k3, xF_sF, if_neg (by omega), xF_sF, if_pos ⟨rfl, rfl, rfl⟩]
      · rw [k11.1 _ _ _ (by omega), k7, k3, xF_sF, if_pos ⟨rfl, rfl, rfl⟩]; rfl
    · obtain ⟨i1, i2, i3, i4, i5, i6, i7, i8, i9, i10, i11⟩ := h3
      refine ⟨⟨i1.1, i1.2.2.1, i1.2.2.1, i1.2.2.2.1, i1.2.2.2.2⟩, ⟨i2.1, i2.2.1, Nat.le_refl 1, Nat.zero_le _⟩, ⟨by omega, Nat.le_refl _, fun e => absurd e (by omega)⟩, fun e => by have := i4 e; omega, i5, i6, i7, ⟨Nat.zero_le _, fun v hv => absurd hv List.not_mem_nil, fun _ => rfl⟩, fun e => absurd e (by omega), fun i hi => ?_, fun i hi => ?_⟩
      · unfold tG
        rw [if_pos hi, lap_iff]
        intro c hc
        unfold pLap cr_lap at hc
        have := (List.mem_filter.mp hc).2
        rw [decide_eq_true_eq] at this
        exact this
      · unfold tG
        rw [if_pos hi]
        rfl
    · exact fun i => fT_K (g3.tr g6) g5 hk i
end O8
