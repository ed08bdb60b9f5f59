/-! calls: book, next, image, restore -/
theorem RC_book {x x' : am_X} {lr g a : Nat} {l : LW} {N w : Nat} {T : Nat → PS} {pi Np wp : Nat} {Tp : Nat → PS} {ls : List Nat} {bg bg' : Nat} {tl tl' : List Nat} {sw sw' : Nat} {B B' : PS} (h : RC x lr g a l N w T pi Np wp Tp ls bg tl sw B) (e : eX (fun t _ i => t = 7 ∨ ((t = 4 ∨ t = 5) ∧ i = 20)) (fun t i => t = 15 ∨ (t = 12 ∧ i = 20)) x x') (hb : xF x' 7 2 0 = nI bg' ∧ xF x' 7 3 0 = nI tl'.length ∧ ∀ k, k < tl'.length → xA x' 15 0 k = nI (tl'.getD k 0)) (hb2 : bg' = 1 → xF x' 7 4 0 = nI sw' ∧ cP x' 20 B') : RC x' lr g a l N w T pi Np wp Tp ls bg' tl' sw' B' :=
  ⟨e.A (by intro k; omega) h.1, e.L (by omega) (by omega) h.2.1, e.T (by intro k; omega) (by intro i _ k; omega) (by intro i _; omega) h.2.2.1, e.T (by intro k; omega) (by intro i _ k; omega) (by intro i _; omega) h.2.2.2.1, e.G (by omega) (by omega) h.2.2.2.2.1, hb, hb2⟩
def bF (k : Nat) : Prop := k = 32 ∨ k = 33 ∨ (36 ≤ k ∧ k ≤ 40)
def bA (t _q : Nat) : Prop := t = 74 ∨ t = 81
theorem RM_book {z z' : am_X} {lr g a : Nat} {l : LW} {N w : Nat} {T : Nat → PS} {pi Np wp : Nat} {Tp : Nat → PS} {ls : List Nat} {bg bg' : Nat} {tl tl' : List Nat} {sw sw' : Nat} {B B' : PS} (h : RM z lr g a l N w T pi Np wp Tp ls bg tl sw B) (e : eY bF bA z z') (hb : (if bg' = 1 then ∃ b, b < 4 ∧ xF z' 32 32 0 = nI b else xF z' 32 32 0 = -1) ∧ xF z' 32 33 0 = nI tl'.length ∧ ∀ k, k < tl'.length → xA z' 74 0 k = nI (tl'.getD k 0)) (hb2 : bg' = 1 → xF z' 32 36 0 = nI sw' ∧ xF z' 32 37 0 = nI (pK B') ∧ xF z' 32 38 0 = pG B' ∧ xF z' 32 39 0 = nI (pO B') ∧ xF z' 32 40 0 = nI (pC B').length ∧ ∀ k, k < (pC B').length → xA z' 81 0 k = nI ((pC B').getD k 0)) : RM z' lr g a l N w T pi Np wp Tp ls bg' tl' sw' B' :=
  ⟨e.A (by unfold bF; omega) h.1, e.L (by unfold bF; omega) (by intro d; unfold bA; omega) h.2.1, e.T (by unfold bF; omega) (by intro p _ t _ _; unfold bA; omega) (by intro q _; unfold bA; omega) h.2.2.1, e.I (by unfold bF; omega) (by intro t q _ _; unfold bA; omega) h.2.2.2.1, e.G (by unfold bF; omega) (by intro q; unfold bA; omega) h.2.2.2.2.1, hb, hb2⟩
theorem M_book_lp {n p : Nat} {v : Int32} (hp : p < 4) : ∀ (m q k : Nat) (z : am_X), (∀ r, r < q → xA z 81 0 r = xA z 54 0 (12 * p + r)) → q + m = 12 → m < k → ∃ z', b_X9_book_89 n k 0 (nI p) v (nI q) z = some (v, z') ∧ (∀ r, r < 12 → xA z' 81 0 r = xA z 54 0 (12 * p + r)) ∧ (∀ t k j, xF z' t k j = xF z t k j) ∧ (∀ t i q, t ≠ 81 → xA z' t i q = xA z t i q) := by
  intro m
  induction m with
  | zero =>
    intro q k z h hq hk
    obtain ⟨k, rfl⟩ : ∃ e, k = e + 1 := ⟨k - 1, by omega⟩
    refine ⟨z, ?_, fun r hr => h r (by omega), fun _ _ _ => rfl, fun _ _ _ _ => rfl⟩
    rw [b_X9_book_89, if_pos (show (12 : Int32) ≤ nI q from nI_le (a := 12) (by omega) (by omega))]
  | succ m ih =>
    intro q k z h hq hk
    obtain ⟨k, rfl⟩ : ∃ e, k = e + 1 := ⟨k - 1, by omega⟩
    rw [b_X9_book_89, if_neg (show ¬ (12 : Int32) ≤ nI q from nI_ge (b := 12) (by omega) (by omega)), show (12 : Int32) * nI p + nI q = nI (12 * p + q) from by rw [show (12 : Int32) = nI 12 from rfl, pk_mul, nI_add], if_pos (am_inB_nI (by omega) (by omega)), if_pos (am_inB_nI (by omega) (by omega)), nI_c (by omega), nI_c (by omega), show nI q + (1 : Int32) = nI (q + 1) from nI_add ..]
    obtain ⟨z', g1, g2, g3, g4⟩ := ih (q + 1) k (sA z 81 0 q (xA z 54 0 (12 * p + q))) (fun r hr => by
      rw [xA_sA, xA_sA, if_neg (show ¬ (54 = 81 ∧ 0 = 0 ∧ 12 * p + r = q) by omega)]
      by_cases e : r = q
      · rw [if_pos ⟨rfl, rfl, e⟩, e]
      · rw [if_neg (by omega)]; exact h r (by omega)) (by omega) (by omega)
    refine ⟨z', g1, fun r hr => ?_, fun t k j => ?_, fun t i r hr => ?_⟩
    · rw [g2 r hr, xA_sA, if_neg (by omega)]
    · rw [g3, xF_sA]
    · rw [g4 t i r hr, xA_sA, if_neg (by omega)]
section O7
variable {n tm : Nat} {x z : am_X}
theorem O_book (hn : 100 ≤ n) (ht : tm < 1000) (hk : ∀ i, xK x i < 5) (h : Rel tm x z) (v : Int32) : Ok tm (f_X8_book n 0 v x) (f_X9_book n 0 v z) := by
  have h0 := h
  obtain ⟨lr, g, a, l, N, w, T, pi, Np, wp, Tp, ls, bg, tl, sw, B, h1, h2, h3⟩ := h
  have hc := h1.2.2.1
  have hm := h2.2.2.1
  have h4 := hc.1
  unfold f_X8_book f_X9_book
  rw [S_isHere hc, ob, M_isPerson hm, ob]
  cases hb : hr N T v with
  | false => exact Ok.same0 (v := -101) h0 hk ht rfl rfl
  | true =>
    obtain ⟨j, hj, rfl, hz⟩ := hr_of h4 hb
    have hP := hc.2.2.2 j (by omega)
    have hQ := hm.2.2.2 j hj
    rw [if_pos rfl, if_pos n10, if_pos n10, S_one (by omega), ob, hP.2.2.2.2.1, if_pos (am_inB_nI (by omega) (by omega)), nI_c (by omega), hQ.2.2.2.1]
    by_cases e : pA (T j) = 0
    · rw [if_pos ((z0 (by have := hP.1.2.2.1; omega)).mpr e), if_pos (show ¬ nI (pA (T j)) = 1 from fun w => by rw [e] at w; exact n01 w), if_pos (am_inB_nI (by omega) (by omega)), if_pos (am_inB_nI (by omega) (by omega)), if_pos (am_inB_nI (by omega) (by omega)), if_pos (am_inB_nI (by omega) (by omega)), S_one (by omega), ob]
      unfold f_X4_open
      dsimp only
      rw [hc.2.2.1]
      have f1 : ∀ t k i, t ≠ 7 → xF (sF (sF (sF x 7 2 0 1) 7 3 0 0) 7 4 0 (nI w)) t k i = xF x t k i := fun t k i o => by rw [xF_sF, if_neg (by omega), xF_sF, if_neg (by omega), xF_sF, if_neg (by omega)]
      have hP1 : cP (sF (sF (sF x 7 2 0 1) 7 3 0 0) 7 4 0 (nI w)) (4 * 0 + j) (T j) := ⟨hP.1, hP.2.1, by rw [f1 _ _ _ (by omega)]; exact hP.2.2.1, by rw [f1 _ _ _ (by omega)]; exact hP.2.2.2.1, by rw [f1 _ _ _ (by omega)]; exact hP.2.2.2.2.1, by rw [f1 _ _ _ (by omega)]; exact hP.2.2.2.2.2.1, by rw [f1 _ _ _ (by omega)]; exact hP.2.2.2.2.2.2.1, hP.2.2.2.2.2.2.2.1, hP.2.2.2.2.2.2.2.2.1, hP.2.2.2.2.2.2.2.2.2⟩
      obtain ⟨x1, g1, g2, g3⟩ := S_copyP (n := n) (i := 20) hn (by omega) hP1
      obtain ⟨z1, k1, k2, k3, k4⟩ := M_book_lp (n := n) (p := j) (v := xF z 32 33 0) (by omega) 12 0 n (sF (sF (sF (sF (sF (sF (sF z 32 32 0 (nI j)) 32 33 0 0) 32 36 0 (xF z 32 6 0)) 32 37 0 (xA z 48 0 j)) 32 38 0 (xA z 49 0 j)) 32 39 0 (xA z 50 0 j)) 32 40 0 (xA z 53 0 j)) (fun r hr => absurd hr (Nat.not_lt_zero r)) (by omega) (by omega)
      have q1 : ∀ k, ¬ bF k → xF z1 32 k 0 = xF z 32 k 0 := fun k o => by
        unfold bF at o
        rw [k3, xF_sF, if_neg (by omega), xF_sF, if_neg (by omega), xF_sF, if_neg (by omega), xF_sF, if_neg (by omega), xF_sF, if_neg (by omega), xF_sF, if_neg (by omega), xF_sF, if_neg (by omega)]
      refine ⟨nI tl.length, x1, z1, ?_, ?_, Rel.up ⟨lr, g, a, l, N, w, T, pi, Np, wp, Tp, ls, 1, [], w, T j, RC_book h1 ?_ ?_ ?_, RM_book h2 ⟨q1, fun t q o => ?_⟩ ?_ ?_, ?_⟩ ht, ?_⟩
      · rw [g1, ob, ob, h1.2.2.2.2.2.1.2.1]
      · rw [← h2.2.2.2.2.2.1.2.1]; exact k1
      · exact ⟨fun t k i o => by rw [g3.1 t k i (fun e => o (Or.inr e)), f1 _ _ _ (fun e => o (Or.inl e))], fun t i q o => by rw [g3.2.1 t i q (fun e => o (Or.inr e))]; rfl, fun i o => by rw [g3.2.2.1 i (fun e => o (Or.inr ⟨Or.inl rfl, e⟩))]; rfl⟩
      · exact ⟨by rw [g3.1 _ _ _ (by omega), xF_sF, if_neg (by omega), xF_sF, if_neg (by omega), xF_sF, if_pos ⟨rfl, rfl, rfl⟩]; rfl, by rw [g3.1 _ _ _ (by omega), xF_sF, if_neg (by omega), xF_sF, if_pos ⟨rfl, rfl, rfl⟩]; rfl, fun k hk => absurd hk (Nat.not_lt_zero k)⟩
      · exact fun _ => ⟨by rw [g3.1 _ _ _ (by omega), xF_sF, if_pos ⟨rfl, rfl, rfl⟩], g2⟩
      · unfold bA at o
        rw [k4 t 0 q (by omega)]; rfl
      · rw [if_pos rfl]
        exact ⟨⟨j, by omega, by rw [k3, xF_sF, if_neg (by omega), xF_sF, if_neg (by omega), xF_sF, if_neg (by omega), xF_sF, if_neg (by omega), xF_sF, if_neg (by omega), xF_sF, if_neg (by omega), xF_sF, if_pos ⟨rfl, rfl, rfl⟩]⟩, by rw [k3, xF_sF, if_neg (by omega), xF_sF, if_neg (by omega), xF_sF, if_neg (by omega), xF_sF, if_neg (by omega), xF_sF, if_neg (by omega), xF_sF, if_pos ⟨rfl, rfl, rfl⟩]; rfl, fun k hk => absurd hk (Nat.not_lt_zero k)⟩
      · intro _
        refine ⟨?_, ?_, ?_, ?_, ?_, fun k hk => ?_⟩
        · rw [k3, xF_sF, if_neg (by omega), xF_sF, if_neg (by omega), xF_sF, if_neg (by omega), xF_sF, if_neg (by omega), xF_sF, if_pos ⟨rfl, rfl, rfl⟩]; exact hm.2.2.1
        · rw [k3, xF_sF, if_neg (by omega), xF_sF, if_neg (by omega), xF_sF, if_neg (by omega), xF_sF, if_pos ⟨rfl, rfl, rfl⟩]; exact hQ.1.2.2.1
        · rw [k3, xF_sF, if_neg (by omega), xF_sF, if_neg (by omega), xF_sF, if_pos ⟨rfl, rfl, rfl⟩]; exact hQ.1.2.2.2.1
        · rw [k3, xF_sF, if_neg (by omega), xF_sF, if_pos ⟨rfl, rfl, rfl⟩]; exact hQ.1.2.2.2.2.1
        · rw [k3, xF_sF, if_pos ⟨rfl, rfl, rfl⟩]; exact hQ.1.2.2.2.2.2.1
        · have := hQ.1.2.2.2.2.2.2.1
          rw [k2 k (by omega)]; exact hQ.1.2.2.2.2.2.2.2.2 k hk
      · obtain ⟨i1, i2, i3, i4, i5, i6, i7, i8, i9, i10, i11⟩ := h3
        exact ⟨⟨i1.1, i1.2.1, i1.2.2.1, i1.2.1, i1.2.2.2.2⟩, ⟨i2.1, i2.2.1, i2.2.2.1, Nat.le_refl 1⟩, i3, i4, i5, i6, i7, ⟨Nat.zero_le _, fun v hv => absurd hv List.not_mem_nil, fun _ => rfl⟩, fun _ => ⟨e, fun e => by have := i4 e; omega⟩, i10, i11⟩
      · exact fP_K g3 g2 hk
    · have e1 : pA (T j) = 1 := by have := hP.1.2.2.1; omega
      refine Ok.same0 (v := -103) h0 hk ht ?_ ?_
      · rw [if_neg (fun w => e ((z0 (by omega)).mp w))]
      · rw [if_neg (fun w => w (by rw [e1]; rfl))]
theorem O_next (ht : tm < 1000) (hk : ∀ i, xK x i < 5) (h : Rel tm x z) (v : Int32) : Ok tm (f_X8_next n 0 v x) (f_X9_next n 0 v z) := by
  have h0 := h
  obtain ⟨lr, g, a, l, N, w, T, pi, Np, wp, Tp, ls, bg, tl, sw, B, h1, h2, h3⟩ := h
  obtain ⟨b1, b2, b3⟩ := h1.2.2.2.2.2.1
  obtain ⟨c1, c2, c3⟩ := h2.2.2.2.2.2.1
  have hl5 := h3.2.2.2.2.2.2.2.1.1
  unfold f_X8_next f_X9_next
  rw [b1]
  by_cases e : bg = 1
  · rw [if_pos e] at c1
    obtain ⟨b, hb4, hb⟩ := c1
    rw [e, if_pos (show ¬ nI 1 = 0 from n10), hb, if_pos (nI_ne_m1 (by omega)), show (999 : Int32) = nI 999 from rfl, rg_le v 999 (by omega), W_0 z v (by omega), ob]
    cases hrr : rg 0 999 v with
    | false => exact Ok.same0 (v := -102) h0 hk ht rfl rfl
    | true =>
      obtain ⟨d, _, hd, rfl⟩ := rg_of (by omega) hrr
      unfold f_X4_hasRoom
      rw [if_pos rfl, if_pos rfl, if_pos n10, b2, c2, show (5 : Int32) = nI 5 from rfl]
      by_cases e5 : tl.length < 5
      · rw [if_neg (nI_ge e5 (by omega)), ob, if_pos n10, if_pos (by rw [nI_eqi (by omega) (by omega)]; omega), if_pos (am_inB_nI e5 (by omega)), nI_c (by omega)]
        unfold f_X4_write
        dsimp only
        rw [b2, if_neg (show ¬ nI tl.length < 0 from fun e => by rw [lt_z, nI_toInt (by omega)] at e; omega), show (5 : Int32) = nI 5 from rfl, if_neg (nI_ge e5 (by omega)), if_pos (am_inB_nI e5 (by omega)), nI_c (by omega), ob]
        rw [show nI tl.length + (1 : Int32) = nI (tl.length + 1) from nI_add ..]
        refine ⟨nI (tl.length + 1), sF (sA x 15 0 tl.length (nI d)) 7 3 0 (nI (tl.length + 1)), sF (sA z 74 0 tl.length (nI d)) 32 33 0 (nI (tl.length + 1)), by rw [xF_sF, if_pos ⟨rfl, rfl, rfl⟩], by rw [xF_sF, if_pos ⟨rfl, rfl, rfl⟩], Rel.up ⟨lr, g, a, l, N, w, T, pi, Np, wp, Tp, ls, bg, tl ++ [d], sw, B, RC_book h1 ?_ ?_ ?_, RM_book h2 ?_ ?_ ?_, ?_⟩ ht, hk⟩
        · exact ⟨fun t k i o => by rw [xF_sF, if_neg (by omega)]; rfl, fun t i q o => by rw [xA_sF, xA_sA, if_neg (by omega)], fun i o => rfl⟩
        · refine ⟨by rw [xF_sF, if_neg (by omega)]; exact b1, by rw [xF_sF, if_pos ⟨rfl, rfl, rfl⟩, List.length_append]; rfl, fun k hk => ?_⟩
          rw [xA_sF, xA_sA, cr_getD_app]
          rw [List.length_append] at hk
          by_cases ek : k = tl.length
          · rw [if_pos ⟨rfl, rfl, ek⟩, if_neg (by omega), if_pos ek]
          · have hk' : k < tl.length := by simp at hk; omega
            rw [if_neg (by omega), if_pos hk']; exact b3 k hk'
        · intro hb
          have := h1.2.2.2.2.2.2 hb
          refine ⟨by rw [xF_sF, if_neg (by omega)]; exact this.1, ?_⟩
          have hP := this.2
          have f : ∀ t k i, t ≠ 7 → xF (sF (sA x 15 0 tl.length (nI d)) 7 3 0 (nI (tl.length + 1))) t k i = xF x t k i := fun t k i o => by rw [xF_sF, if_neg (by omega)]; rfl
          exact ⟨hP.1, hP.2.1, (f _ _ _ (by omega)).trans hP.2.2.1, (f _ _ _ (by omega)).trans hP.2.2.2.1, (f _ _ _ (by omega)).trans hP.2.2.2.2.1, (f _ _ _ (by omega)).trans hP.2.2.2.2.2.1, (f _ _ _ (by omega)).trans hP.2.2.2.2.2.2.1, hP.2.2.2.2.2.2.2.1, hP.2.2.2.2.2.2.2.2.1, fun k hk => by rw [xA_sF, xA_sA, if_neg (by omega)]; exact hP.2.2.2.2.2.2.2.2.2 k hk⟩
        · exact ⟨fun k o => by unfold bF at o; rw [xF_sF, if_neg (by omega)]; rfl, fun t q o => by unfold bA at o; rw [xA_sF, xA_sA, if_neg (by omega)]⟩
        · refine ⟨by rw [if_pos e]; exact ⟨b, hb4, by rw [xF_sF, if_neg (by omega)]; exact hb⟩, by rw [xF_sF, if_pos ⟨rfl, rfl, rfl⟩, List.length_append]; rfl, fun k hk => ?_⟩
          rw [xA_sF, xA_sA, cr_getD_app]
          rw [List.length_append] at hk
          by_cases ek : k = tl.length
          · rw [if_pos ⟨rfl, rfl, ek⟩, if_neg (by omega), if_pos ek]
          · have hk' : k < tl.length := by simp at hk; omega
            rw [if_neg (by omega), if_pos hk']; exact c3 k hk'
        · intro hb
          obtain ⟨d1, d2, d3, d4, d5, d6⟩ := h2.2.2.2.2.2.2 hb
          exact ⟨by rw [xF_sF, if_neg (by omega)]; exact d1, by rw [xF_sF, if_neg (by omega)]; exact d2, by rw [xF_sF, if_neg (by omega)]; exact d3, by rw [xF_sF, if_neg (by omega)]; exact d4, by rw [xF_sF, if_neg (by omega)]; exact d5, fun k hk => by rw [xA_sF, xA_sA, if_neg (by omega)]; exact d6 k hk⟩
        · obtain ⟨i1, i2, i3, i4, i5, i6, i7, i8, i9, i10, i11⟩ := h3
          refine ⟨i1, i2, i3, i4, i5, i6, i7, ⟨by simp; omega, fun v hv => ?_, fun e' => by omega⟩, i9, i10, i11⟩
          rcases List.mem_append.mp hv with hv | hv
          · exact i8.2.1 v hv
          · rw [List.mem_singleton.mp hv]; omega
      · refine Ok.same0 (v := -104) h0 hk ht ?_ ?_
        · rw [if_pos (nI_le (by omega) (by omega)), ob, if_neg (fun e => e rfl)]
        · rw [if_neg (fun w => w (by rw [show tl.length = 5 from by omega]))]
  · have e0 : bg = 0 := by have := h3.2.1.2.2.2; omega
    rw [if_neg e] at c1
    refine Ok.same0 (v := -103) h0 hk ht ?_ ?_
    · rw [e0, if_neg (fun w => w rfl)]
    · rw [c1, if_neg (fun w => w rfl)]
end O7
