/-! years: save and back, the call -/
theorem M_sv2 {n : Nat} : ∀ (m q k : Nat) (z : am_X), (∀ r, r < q → xA z 90 0 r = xA z 54 0 r) → q + m = 48 → m < k → ∃ z', b_X9_save_71 n k 0 (nI q) z = some z' ∧ (∀ r, r < 48 → xA z' 90 0 r = xA z 54 0 r) ∧ (∀ t k j, xF z' t k j = xF z t k j) ∧ (∀ t i r, ¬ (t = 90 ∧ r < 48) → xA z' t i r = xA z t i r) ∧ z'.2.2 = z.2.2 := by
  intro m
  induction m with
  | zero =>
    intro q k z h hq hk
    obtain ⟨k, rfl⟩ : ∃ e, k = e + 1 := ⟨k - 1, by omega⟩
    refine ⟨z, ?_, fun r hr => h r (by omega), fun _ _ _ => rfl, fun _ _ _ _ => rfl, rfl⟩
    rw [b_X9_save_71, if_pos (show (48 : Int32) ≤ nI q from nI_le (a := 48) (by omega) (by omega))]
  | succ m ih =>
    intro q k z h hq hk
    obtain ⟨k, rfl⟩ : ∃ e, k = e + 1 := ⟨k - 1, by omega⟩
    rw [b_X9_save_71, if_neg (show ¬ (48 : Int32) ≤ nI q from nI_ge (b := 48) (by omega) (by omega)), if_pos (am_inB_nI (by omega) (by omega)), if_pos (am_inB_nI (by omega) (by omega)), nI_c (by omega), show nI q + (1 : Int32) = nI (q + 1) from nI_add ..]
    obtain ⟨z', g1, g2, g3, g4, g5⟩ := ih (q + 1) k (sA z 90 0 q (xA z 54 0 q)) (fun r hr => by
      rw [xA_sA, xA_sA, if_neg (show ¬ (54 = 90 ∧ 0 = 0 ∧ r = q) by omega)]
      by_cases e : r = q
      · rw [if_pos ⟨rfl, rfl, e⟩, e]
      · rw [if_neg (by omega)]; exact h r (by omega)) (by omega) (by omega)
    refine ⟨z', g1, fun r hr => ?_, fun t k j => ?_, fun t i r hr => ?_, g5⟩
    · rw [g2 r hr, xA_sA, if_neg (by omega)]
    · rw [g3, xF_sA]
    · rw [g4 t i r hr, xA_sA, if_neg (by omega)]
theorem M_bk2 {n : Nat} : ∀ (m q k : Nat) (z : am_X), (∀ r, r < q → xA z 54 0 r = xA z 90 0 r) → q + m = 48 → m < k → ∃ z', b_X9_back_71 n k 0 (nI q) z = some z' ∧ (∀ r, r < 48 → xA z' 54 0 r = xA z 90 0 r) ∧ (∀ t k j, xF z' t k j = xF z t k j) ∧ (∀ t i r, ¬ (t = 54 ∧ r < 48) → xA z' t i r = xA z t i r) ∧ z'.2.2 = z.2.2 := by
  intro m
  induction m with
  | zero =>
    intro q k z h hq hk
    obtain ⟨k, rfl⟩ : ∃ e, k = e + 1 := ⟨k - 1, by omega⟩
    refine ⟨z, ?_, fun r hr => h r (by omega), fun _ _ _ => rfl, fun _ _ _ _ => rfl, rfl⟩
    rw [b_X9_back_71, if_pos (show (48 : Int32) ≤ nI q from nI_le (a := 48) (by omega) (by omega))]
  | succ m ih =>
    intro q k z h hq hk
    obtain ⟨k, rfl⟩ : ∃ e, k = e + 1 := ⟨k - 1, by omega⟩
    rw [b_X9_back_71, if_neg (show ¬ (48 : Int32) ≤ nI q from nI_ge (b := 48) (by omega) (by omega)), if_pos (am_inB_nI (by omega) (by omega)), if_pos (am_inB_nI (by omega) (by omega)), nI_c (by omega), show nI q + (1 : Int32) = nI (q + 1) from nI_add ..]
    obtain ⟨z', g1, g2, g3, g4, g5⟩ := ih (q + 1) k (sA z 54 0 q (xA z 90 0 q)) (fun r hr => by
      rw [xA_sA, xA_sA, if_neg (show ¬ (90 = 54 ∧ 0 = 0 ∧ r = q) by omega)]
      by_cases e : r = q
      · rw [if_pos ⟨rfl, rfl, e⟩, e]
      · rw [if_neg (by omega)]; exact h r (by omega)) (by omega) (by omega)
    refine ⟨z', g1, fun r hr => ?_, fun t k j => ?_, fun t i r hr => ?_, g5⟩
    · rw [g2 r hr, xA_sA, if_neg (by omega)]
    · rw [g3, xF_sA]
    · rw [g4 t i r hr, xA_sA, if_neg (by omega)]
theorem M_sv1 {n : Nat} : ∀ (m q k : Nat) (z : am_X), (∀ r, r < q → xA z 86 0 r = xA z 49 0 r ∧ xA z 87 0 r = xA z 50 0 r ∧ xA z 88 0 r = xA z 51 0 r ∧ xA z 89 0 r = xA z 53 0 r) → q + m = 4 → m < k → ∃ z', b_X9_save_10 n k 0 (nI q) z = b_X9_save_71 n n 0 (nI 0) z' ∧ (∀ r, r < 4 → xA z' 86 0 r = xA z 49 0 r ∧ xA z' 87 0 r = xA z 50 0 r ∧ xA z' 88 0 r = xA z 51 0 r ∧ xA z' 89 0 r = xA z 53 0 r) ∧ (∀ t k j, xF z' t k j = xF z t k j) ∧ (∀ t i r, ¬ ((t = 86 ∨ t = 87 ∨ t = 88 ∨ t = 89) ∧ r < 4) → xA z' t i r = xA z t i r) ∧ z'.2.2 = z.2.2 := by
  intro m
  induction m with
  | zero =>
    intro q k z h hq hk
    obtain ⟨k, rfl⟩ : ∃ e, k = e + 1 := ⟨k - 1, by omega⟩
    refine ⟨z, ?_, fun r hr => h r (by omega), fun _ _ _ => rfl, fun _ _ _ _ => rfl, rfl⟩
    rw [b_X9_save_10, if_pos (show (4 : Int32) ≤ nI q from nI_le (a := 4) (by omega) (by omega))]
    rfl
  | succ m ih =>
    intro q k z h hq hk
    obtain ⟨k, rfl⟩ : ∃ e, k = e + 1 := ⟨k - 1, by omega⟩
    have i4 : am_inB (nI q) 4 = true := am_inB_nI (by omega) (by omega)
    have i5 : am_inB (nI q) 5 = true := am_inB_nI (by omega) (by omega)
    rw [b_X9_save_10, if_neg (show ¬ (4 : Int32) ≤ nI q from nI_ge (b := 4) (by omega) (by omega)), if_pos i5, if_pos i4, if_pos i5, if_pos i4, if_pos i5, if_pos i4, if_pos i5, if_pos i4, nI_c (by omega), show nI q + (1 : Int32) = nI (q + 1) from nI_add ..]
    have o : ∀ t i r, ¬ ((t = 86 ∨ t = 87 ∨ t = 88 ∨ t = 89) ∧ r = q) → xA (sA (sA (sA (sA z 86 0 q (xA z 49 0 q)) 87 0 q (xA z 50 0 q)) 88 0 q (xA z 51 0 q)) 89 0 q (xA z 53 0 q)) t i r = xA z t i r := fun t i r a => by
      rw [xA_sA, if_neg (by omega), xA_sA, if_neg (by omega), xA_sA, if_neg (by omega), xA_sA, if_neg (by omega)]
    obtain ⟨z', g1, g2, g3, g4, g5⟩ := ih (q + 1) k _ (fun r hr => by
      by_cases e : r = q
      · rw [e]
        exact ⟨by rw [o 49 0 q (by omega), xA_sA, if_neg (by omega), xA_sA, if_neg (by omega), xA_sA, if_neg (by omega), xA_sA, if_pos ⟨rfl, rfl, rfl⟩], by rw [o 50 0 q (by omega), xA_sA, if_neg (by omega), xA_sA, if_neg (by omega), xA_sA, if_pos ⟨rfl, rfl, rfl⟩], by rw [o 51 0 q (by omega), xA_sA, if_neg (by omega), xA_sA, if_pos ⟨rfl, rfl, rfl⟩], by rw [o 53 0 q (by omega), xA_sA, if_pos ⟨rfl, rfl, rfl⟩]⟩
      · exact ⟨by rw [o _ _ _ (by omega), o _ _ _ (by omega)]; exact (h r (by omega)).1, by rw [o _ _ _ (by omega), o _ _ _ (by omega)]; exact (h r (by omega)).2.1, by rw [o _ _ _ (by omega), o _ _ _ (by omega)]; exact (h r (by omega)).2.2.1, by rw [o _ _ _ (by omega), o _ _ _ (by omega)]; exact (h r (by omega)).2.2.2⟩) (by omega) (by omega)
    refine ⟨z', g1, fun r hr => ⟨by rw [(g2 r hr).1, o _ _ _ (by omega)], by rw [(g2 r hr).2.1, o _ _ _ (by omega)], by rw [(g2 r hr).2.2.1, o _ _ _ (by omega)], by rw [(g2 r hr).2.2.2, o _ _ _ (by omega)]⟩, fun t k j => ?_, fun t i r hr => ?_, g5⟩
    · rw [g3, xF_sA, xF_sA, xF_sA, xF_sA]
    · rw [g4 t i r hr, o _ _ _ (by omega)]
theorem M_bk1 {n : Nat} : ∀ (m q k : Nat) (z : am_X), (∀ r, r < q → xA z 49 0 r = xA z 86 0 r ∧ xA z 50 0 r = xA z 87 0 r ∧ xA z 51 0 r = xA z 88 0 r ∧ xA z 53 0 r = xA z 89 0 r) → q + m = 4 → m < k → ∃ z', b_X9_back_10 n k 0 (nI q) z = b_X9_back_71 n n 0 (nI 0) z' ∧ (∀ r, r < 4 → xA z' 49 0 r = xA z 86 0 r ∧ xA z' 50 0 r = xA z 87 0 r ∧ xA z' 51 0 r = xA z 88 0 r ∧ xA z' 53 0 r = xA z 89 0 r) ∧ (∀ t k j, xF z' t k j = xF z t k j) ∧ (∀ t i r, ¬ ((t = 49 ∨ t = 50 ∨ t = 51 ∨ t = 53) ∧ r < 4) → xA z' t i r = xA z t i r) ∧ z'.2.2 = z.2.2 := by
  intro m
  induction m with
  | zero =>
    intro q k z h hq hk
    obtain ⟨k, rfl⟩ : ∃ e, k = e + 1 := ⟨k - 1, by omega⟩
    refine ⟨z, ?_, fun r hr => h r (by omega), fun _ _ _ => rfl, fun _ _ _ _ => rfl, rfl⟩
    rw [b_X9_back_10, if_pos (show (4 : Int32) ≤ nI q from nI_le (a := 4) (by omega) (by omega))]
    rfl
  | succ m ih =>
    intro q k z h hq hk
    obtain ⟨k, rfl⟩ : ∃ e, k = e + 1 := ⟨k - 1, by omega⟩
    have i4 : am_inB (nI q) 4 = true := am_inB_nI (by omega) (by omega)
    have i5 : am_inB (nI q) 5 = true := am_inB_nI (by omega) (by omega)
    rw [b_X9_back_10, if_neg (show ¬ (4 : Int32) ≤ nI q from nI_ge (b := 4) (by omega) (by omega)), if_pos i4, if_pos i5, if_pos i4, if_pos i5, if_pos i4, if_pos i5, if_pos i4, if_pos i5, nI_c (by omega), show nI q + (1 : Int32) = nI (q + 1) from nI_add ..]
    have o : ∀ t i r, ¬ ((t = 49 ∨ t = 50 ∨ t = 51 ∨ t = 53) ∧ r = q) → xA (sA (sA (sA (sA z 49 0 q (xA z 86 0 q)) 50 0 q (xA z 87 0 q)) 51 0 q (xA z 88 0 q)) 53 0 q (xA z 89 0 q)) t i r = xA z t i r := fun t i r a => by
      rw [xA_sA, if_neg (by omega), xA_sA, if_neg (by omega), xA_sA, if_neg (by omega), xA_sA, if_neg (by omega)]
    obtain ⟨z', g1, g2, g3, g4, g5⟩ := ih (q + 1) k _ (fun r hr => by
      by_cases e : r = q
      · rw [e]
        exact ⟨by rw [o 86 0 q (by omega), xA_sA, if_neg (by omega), xA_sA, if_neg (by omega), xA_sA, if_neg (by omega), xA_sA, if_pos ⟨rfl, rfl, rfl⟩], by rw [o 87 0 q (by omega), xA_sA, if_neg (by omega), xA_sA, if_neg (by omega), xA_sA, if_pos ⟨rfl, rfl, rfl⟩], by rw [o 88 0 q (by omega), xA_sA, if_neg (by omega), xA_sA, if_pos ⟨rfl, rfl, rfl⟩], by rw [o 89 0 q (by omega), xA_sA, if_pos ⟨rfl, rfl, rfl⟩]⟩
      · exact ⟨by rw [o _ _ _ (by omega), o _ _ _ (by omega)]; exact (h r (by omega)).1, by rw [o _ _ _ (by omega), o _ _ _ (by omega)]; exact (h r (by omega)).2.1, by rw [o _ _ _ (by omega), o _ _ _ (by omega)]; exact (h r (by omega)).2.2.1, by rw [o _ _ _ (by omega), o _ _ _ (by omega)]; exact (h r (by omega)).2.2.2⟩) (by omega) (by omega)
    refine ⟨z', g1, fun r hr => ⟨by rw [(g2 r hr).1, o _ _ _ (by omega)], by rw [(g2 r hr).2.1, o _ _ _ (by omega)], by rw [(g2 r hr).2.2.1, o _ _ _ (by omega)], by rw [(g2 r hr).2.2.2, o _ _ _ (by omega)]⟩, fun t k j => ?_, fun t i r hr => ?_, g5⟩
    · rw [g3, xF_sA, xF_sA, xF_sA, xF_sA]
    · rw [g4 t i r hr, o _ _ _ (by omega)]
theorem M_save {n : Nat} (z : am_X) (hn : 100 ≤ n) : ∃ z', f_X9_save n 0 z = some z' ∧ xF z' 32 45 0 = xF z 32 6 0 ∧ (∀ t k j, ¬ (t = 32 ∧ k = 45) → xF z' t k j = xF z t k j) ∧ (∀ r, r < 4 → xA z' 86 0 r = xA z 49 0 r ∧ xA z' 87 0 r = xA z 50 0 r ∧ xA z' 88 0 r = xA z 51 0 r ∧ xA z' 89 0 r = xA z 53 0 r) ∧ (∀ r, r < 48 → xA z' 90 0 r = xA z 54 0 r) ∧ (∀ t i r, ¬ (86 ≤ t ∧ t ≤ 90) → xA z' t i r = xA z t i r) ∧ z'.2.2 = z.2.2 := by
  unfold f_X9_save
  obtain ⟨z1, k1, k2, k3, k4, k5⟩ := M_sv1 (n := n) 4 0 n (sF z 32 45 0 (xF z 32 6 0)) (fun r hr => absurd hr (Nat.not_lt_zero r)) (by omega) (by omega)
  obtain ⟨z2, l1, l2, l3, l4, l5⟩ := M_sv2 (n := n) 48 0 n z1 (fun r hr => absurd hr (Nat.not_lt_zero r)) (by omega) (by omega)
  refine ⟨z2, k1.trans l1, ?_, fun t k j o => ?_, fun r hr => ?_, fun r hr => ?_, fun t i r o => ?_, l5.trans k5⟩
  · rw [l3, k3, xF_sF, if_pos ⟨rfl, rfl, rfl⟩]
  · rw [l3, k3, xF_sF, if_neg (by omega)]
  · have := k2 r hr
    exact ⟨by rw [l4 _ _ _ (by omega), this.1]; rfl, by rw [l4 _ _ _ (by omega), this.2.1]; rfl, by rw [l4 _ _ _ (by omega), this.2.2.1]; rfl, by rw [l4 _ _ _ (by omega), this.2.2.2]; rfl⟩
  · rw [l2 r hr, k4 _ _ _ (by omega)]; rfl
  · rw [l4 _ _ _ (by omega), k4 _ _ _ (by omega)]; rfl
theorem M_back {n : Nat} (z : am_X) (hn : 100 ≤ n) : ∃ z', f_X9_back n 0 z = some z' ∧ xF z' 32 6 0 = xF z 32 45 0 ∧ (∀ t k j, ¬ (t = 32 ∧ k = 6) → xF z' t k j = xF z t k j) ∧ (∀ r, r < 4 → xA z' 49 0 r = xA z 86 0 r ∧ xA z' 50 0 r = xA z 87 0 r ∧ xA z' 51 0 r = xA z 88 0 r ∧ xA z' 53 0 r = xA z 89 0 r) ∧ (∀ r, r < 48 → xA z' 54 0 r = xA z 90 0 r) ∧ (∀ t i r, ¬ ((t = 49 ∨ t = 50 ∨ t = 51 ∨ t = 53) ∧ r < 4) → ¬ (t = 54 ∧ r < 48) → xA z' t i r = xA z t i r) ∧ z'.2.2 = z.2.2 := by
  unfold f_X9_back
  obtain ⟨z1, k1, k2, k3, k4, k5⟩ := M_bk1 (n := n) 4 0 n (sF z 32 6 0 (xF z 32 45 0)) (fun r hr => absurd hr (Nat.not_lt_zero r)) (by omega) (by omega)
  obtain ⟨z2, l1, l2, l3, l4, l5⟩ := M_bk2 (n := n) 48 0 n z1 (fun r hr => absurd hr (Nat.not_lt_zero r)) (by omega) (by omega)
  refine ⟨z2, k1.trans l1, ?_, fun t k j o => ?_, fun r hr => ?_, fun r hr => ?_, fun t i r o o' => ?_, l5.trans k5⟩
  · rw [l3, k3, xF_sF, if_pos ⟨rfl, rfl, rfl⟩]
  · rw [l3, k3, xF_sF, if_neg (by omega)]
  · have := k2 r hr
    exact ⟨by rw [l4 _ _ _ (by omega), this.1]; rfl, by rw [l4 _ _ _ (by omega), this.2.1]; rfl, by rw [l4 _ _ _ (by omega), this.2.2.1]; rfl, by rw [l4 _ _ _ (by omega), this.2.2.2]; rfl⟩
  · rw [l2 r hr, k4 _ _ _ (by omega)]; rfl
  · rw [l4 _ _ _ (by omega), k4 _ _ _ (by omega)]; rfl
theorem fT_eC {x x' : am_X} (h : fT 2 x x') (hk : ∀ j, xK x' j < 5) : eC x x' := by
  refine ⟨fun t k j o => h.1 t k j (fun e => ?_) (fun e => ?_), fun t j q o => h.2.1 t j q (fun e => ?_), fun j o => h.2.2.1 j (fun e => by omega), fun _ => hk⟩
  · unfold oF at o
    omega
  · unfold oF at o
    omega
  · unfold oA at o
    omega
section O12
variable {n tm : Nat} {x z : am_X}
theorem J_yearsNow {lr g a : Nat} {l : LW} {N w : Nat} {T : Nat → PS} {pi Np wp : Nat} {Tp : Nat → PS} {ls : List Nat} {bg : Nat} {tl : List Nat} {sw : Nat} {B : PS} {W s v : Nat} (hn : 100 ≤ n) (hk : ∀ i, xK x i < 5) (h1 : RC x lr g a l N w T pi Np wp Tp ls bg tl sw B) (h2 : RM z lr g a l N w T pi Np wp Tp ls bg tl sw B) (h3 : RI tm lr g a l N w T pi Np wp Tp ls bg tl sw B) (hlr : lr ≠ 0) (hW : W ≤ 60) (hs : s < 2147483648) (hv : v ≤ 3) : ∃ u x' z', ((f_X7_copy n 2 0 x).bind fun q7 => (f_X7_live n 2 (nI W) (nI s) 0 q7).bind fun q8 => if nI v = (0 : Int32) then ((f_X7_allGot n 2 q8).bind fun q10 => some (q10.1, q10.2)) else if nI v = (1 : Int32) then ((f_X7_allOwed n 2 q8).bind fun q12 => some (q12.1, q12.2)) else if nI v = (2 : Int32) then (some ((xF q8 3 3 2), q8)) else (some ((xF q8 3 4 2), q8))) = some (u, x') ∧ f_X9_yearsNow n 0 (nI W) (nI s) (nI v) z = some (u, z') ∧ eC x x' ∧ RM z' lr g a l N w T pi Np wp Tp ls bg tl sw B := by
  have hl : lw_ok l := h3.2.2.2.2.1.resolve_left hlr
  have hc := h1.2.2.1
  have hm := h2.2.2.1
  have h4 := hc.1
  have hw := h3.1
  obtain ⟨x1, g1, g2, g3⟩ := S_copyT (n := n) (t := 2) hn (by omega) hc
  obtain ⟨z1, k1, k2, k3, k4, k5, k6, k7⟩ := M_save (n := n) z hn
  have m1 : mT z1 N w T := ⟨h4, by rw [k3 _ _ _ (by omega)]; exact hm.2.1, by rw [k3 _ _ _ (by omega)]; exact hm.2.2.1, fun p hp => mP_keep (hm.2.2.2 p hp) (fun t _ _ => k6 _ _ _ (by omega)) (fun q _ => k6 _ _ _ (by omega))⟩
  have l1 : mL z1 l := ⟨fun d hd => ⟨by rw [k6 _ _ _ (by omega)]; exact (h2.2.1.1 d hd).1, by rw [k6 _ _ _ (by omega)]; exact (h2.2.1.1 d hd).2.1, by rw [k6 _ _ _ (by omega)]; exact (h2.2.1.1 d hd).2.2⟩, by rw [k3 _ _ _ (by omega)]; exact h2.2.1.2⟩
  have R0 : yR (sF (sF x1 3 3 2 0) 3 4 2 (nI s)) (sL z1 44 (lN s)) l N w s T 0 := ⟨cT_put (cT_put g2 (by omega)) (by omega), mT_sL m1, (fT.put (t := 2)).cL ((fT.put (t := 2)).cL (g3.cL h1.2.1)), mL_sL l1, by rw [xF_sF, if_neg (by omega), xF_sF, if_pos ⟨rfl, rfl, rfl⟩], by rw [xF_sF, if_pos ⟨rfl, rfl, rfl⟩], by rw [xL_sL, if_pos rfl], hs⟩
  obtain ⟨x2, z2, T2, w2, a2, c2, i1, i2, i3, i4, i5, i6⟩ := J_years (n := n) (W := W) (w3 := nI v) hn hl hW W 0 n n _ _ T w s 0 R0 (by omega) (by omega) (by omega) (by omega)
  obtain ⟨hc2, hm2, hL2, hM2, e33, e34, e44, ha2⟩ := i3
  obtain ⟨z3, o1, o2, o3, o4, o5, o6, o7⟩ := M_back (n := n) z2 hn
  have ft : fT 2 x x2 := g3.tr ((fT.put (t := 2)).tr ((fT.put (t := 2)).tr i4))
  have q1 : ∀ k, k ≠ 6 → k ≠ 45 → xF z3 32 k 0 = xF z 32 k 0 := fun k a b => by
    rw [o3 _ _ _ (by omega), i5.1 k (by unfold yF; omega)]
    exact k3 _ _ _ (by omega)
  have q2 : ∀ t q, ¬ tA t q → ¬ (86 ≤ t ∧ t ≤ 90) → xA z3 t 0 q = xA z t 0 q := fun t q a b => by
    have a' := a
    unfold tA at a'
    rw [o6 _ _ _ (by omega) (by omega), i5.2 t q a]
    exact k6 _ _ _ b
  have e : eY (fun k => k = 6 ∨ k = 45) (fun t q => tA t q ∨ (86 ≤ t ∧ t ≤ 90)) z z3 := ⟨fun k o => q1 k (by omega) (by omega), fun t q o => q2 t q (fun w => o (Or.inl w)) (fun w => o (Or.inr w))⟩
  have m3 : mT z3 N w T := by
    refine ⟨h4, by rw [q1 7 (by omega) (by omega)]; exact hm.2.1, ?_, fun p hp => ?_⟩
    · rw [o2, i5.1 45 (by unfold yF; omega)]
      exact k2.trans hm.2.2.1
    · have hQ := hm.2.2.2 p hp
      have hQ2 := hm2.2.2.2 p hp
      have sv := k4 p (by omega)
      have bk := o4 p (by omega)
      have z2e : ∀ t q, 86 ≤ t → t ≤ 90 → xA z2 t 0 q = xA z1 t 0 q := fun t q a b => by rw [i5.2 t q (by unfold tA; omega)]; rfl
      refine mP_keep hQ (fun t a b => ?_) (fun q hq => ?_)
      · rcases (show t = 48 ∨ t = 49 ∨ t = 50 ∨ t = 51 ∨ t = 52 ∨ t = 53 by omega) with e | e | e | e | e | e <;> subst e
        · rw [o6 _ _ _ (by omega) (by omega), hQ2.1.2.2.1, (i6 p).1, hQ.1.2.2.1]
        · rw [bk.1, z2e _ _ (by omega) (by omega), sv.1]
        · rw [bk.2.1, z2e _ _ (by omega) (by omega), sv.2.1]
        · rw [bk.2.2.1, z2e _ _ (by omega) (by omega), sv.2.2.1]
        · rw [o6 _ _ _ (by omega) (by omega), hQ2.2.2.2.2, (i6 p).2, hQ.2.2.2.2]
        · rw [bk.2.2.2, z2e _ _ (by omega) (by omega), sv.2.2.2]
      · rw [o5 _ (by omega), z2e _ _ (by omega) (by omega), k5 _ (by omega)]
  have hRM : RM z3 lr g a l N w T pi Np wp Tp ls bg tl sw B := ⟨e.A (by omega) h2.1, e.L (by omega) (by intro d; unfold tA; omega) h2.2.1, m3, e.I (by omega) (by intro t q _ _; unfold tA; omega) h2.2.2.2.1, e.G (by omega) (by intro q; unfold tA; omega) h2.2.2.2.2.1, e.B (by omega) (by intro q; unfold tA; omega) h2.2.2.2.2.2.1, e.B2 (by omega) (by intro q; unfold tA; omega) h2.2.2.2.2.2.2⟩
  have hlive : f_X7_live n 2 (nI W) (nI s) 0 x1 = some x2 := i1
  have hyn : f_X9_yearsNow n 0 (nI W) (nI s) (nI v) z = b_X9_yearsNow_16 n n 0 (nI W) (nI v) 0 (nI 0) (sL z1 44 (lN s)) := by
    unfold f_X9_yearsNow
    rw [k1, ob, nI_l (by omega)]
    rfl
  rw [g1, ob, hlive, ob, hyn, i2]
  unfold b_X9_yearsNow_171
  have fin := fT_eC ft (fT_K ft hc2 hk)
  rcases (show v = 0 ∨ v = 1 ∨ v = 2 ∨ v = 3 by omega) with e | e | e | e <;> subst e
  · rw [if_pos (show nI 0 = 0 from rfl), S_allGot hn hc2, ob, if_neg (fun q => q rfl), M_gotAll hn hm2, ob, o1, ob]
    exact ⟨_, x2, z3, rfl, rfl, fin, hRM⟩
  · rw [if_neg (show ¬ nI 1 = 0 from n10), if_pos (show nI 1 = 1 from rfl), S_allOwed hn hc2, ob, if_pos (show ¬ nI 1 = 0 from n10), if_neg (fun q => q rfl), M_owesAll hn hm2, ob, o1, ob]
    exact ⟨_, x2, z3, rfl, rfl, fin, hRM⟩
  · rw [if_neg (show ¬ nI 2 = 0 from by decide), if_neg (show ¬ nI 2 = 1 from by decide), if_pos (show nI 2 = 2 from rfl), if_pos (show ¬ nI 2 = 0 from by decide), if_pos (show ¬ nI 2 = 1 from by decide), if_neg (fun q => q rfl), o1, ob, e33]
    exact ⟨_, x2, z3, rfl, rfl, fin, hRM⟩
  · rw [if_neg (show ¬ nI 3 = 0 from by decide), if_neg (show ¬ nI 3 = 1 from by decide), if_neg (show ¬ nI 3 = 2 from by decide), if_pos (show ¬ nI 3 = 0 from by decide), if_pos (show ¬ nI 3 = 1 from by decide), if_pos (show ¬ nI 3 = 2 from by decide), o1, ob, e34, e44, yN_i ha2]
    exact ⟨_, x2, z3, rfl, rfl, fin, hRM⟩
theorem O_years (hn : 100 ≤ n) (ht : tm < 1000) (hk : ∀ i, xK x i < 5) (h : Rel tm x z) (v1 v2 v3 : Int32) : Ok tm (f_X8_years n 0 v1 v2 v3 x) (f_X9_years n 0 v1 v2 v3 z) := by
  have h0 := h
  obtain ⟨lr, g, a, l, N, w, T, pi, Np, wp, Tp, ls, bg, tl, sw, B, h1, h2, h3⟩ := h
  have hlr := h3.1
  unfold f_X8_years f_X9_years
  rw [show (1 : Int32) = nI 1 from rfl, show (60 : Int32) = nI 60 from rfl, show (3 : Int32) = nI 3 from rfl, M_within z v1 (by omega) (by omega), ob]
  by_cases c1 : rg 1 60 v1 = true
  · obtain ⟨W, hW1, hW, rfl⟩ := rg_of (by omega) c1
    rw [if_pos c1, if_neg (show ¬ nI W < nI 1 from fun q => by rw [nI_lti (by omega) (by omega)] at q; omega), if_neg (show ¬ nI 60 < nI W from fun q => by rw [nI_lti (by omega) (by omega)] at q; omega), if_neg n10]
    by_cases c2 : v2 < 0
    · rw [if_pos c2, if_pos c2]
      exact Ok.same0 (v := -102) h0 hk ht rfl rfl
    · rw [if_neg c2, if_neg c2, rg_le v3 3 (by omega), W_0 z v3 (by omega), ob]
      obtain ⟨s, hs, rfl⟩ : ∃ s : Nat, s < 2147483648 ∧ v2 = nI s := by
        rw [lt_z] at c2
        have := v2.toInt_lt
        obtain ⟨j, _, hj, e⟩ := rg_of (a := 0) (b := 2147483647) (v := v2) (by omega) (by unfold rg; rw [Bool.and_eq_true, decide_eq_true_eq, decide_eq_true_eq]; omega)
        exact ⟨j, by omega, e⟩
      cases c3 : rg 0 3 v3 with
      | false => exact Ok.same0 (v := -102) h0 hk ht rfl rfl
      | true =>
        obtain ⟨v, _, hv, rfl⟩ := rg_of (by omega) c3
        rw [if_pos rfl, if_pos rfl, if_pos n10, h1.1.1, h2.1.1]
        by_cases c4 : lr = 0
        · rw [if_pos c4, if_pos (show nI 0 = 0 from rfl), c4, if_neg (fun q => q rfl)]
          exact Ok.same0 (v := -103) h0 hk ht rfl rfl
        · rw [if_neg c4, if_neg (show ¬ nI 1 = 0 from n10), if_pos (fun q => c4 ((z0 (by omega)).mp q))]
          obtain ⟨u, x', z', i1, i2, i3, i4⟩ := J_yearsNow (n := n) (W := W) (s := s) (v := v) hn hk h1 h2 h3 c4 hW hs hv
          exact ⟨u, x', z', i1, by rw [i2, ob], Rel.up ⟨lr, g, a, l, N, w, T, pi, Np, wp, Tp, ls, bg, tl, sw, B, i3.RC h1, i4, h3⟩ ht, i3.2.2.2 hk⟩
  · rw [if_neg c1, if_pos rfl]
    refine Ok.same0 (v := -102) h0 hk ht ?_ rfl
    by_cases d1 : v1 < nI 1
    · rw [if_pos d1]
    · rw [if_neg d1]
      by_cases d2 : nI 60 < v1
      · rw [if_pos d2]
      · exfalso
        apply c1
        rw [lt_nI (by omega)] at d1
        rw [nI_lt' (by omega)] at d2
        unfold rg
        rw [Bool.and_eq_true, decide_eq_true_eq, decide_eq_true_eq]
        omega
end O12
