/-! the calls ways and owed -/
theorem wK_le {m : Nat} (h : m ≤ 5) : wK m ≤ 542905 := by
  rcases (show m = 0 ∨ m = 1 ∨ m = 2 ∨ m = 3 ∨ m = 4 ∨ m = 5 by omega) with e | e | e | e | e | e <;> subst e <;> decide
theorem M_lay_lp {n : Nat} : ∀ (m r k : Nat) (z : am_X), (∀ s, s < r → xA z 54 0 (48 + s) = xA z 81 0 s) → r + m = 12 → m < k → ∃ z', b_X9_layWays_42 n k 0 (nI r) z = ((f_X9_keepRow n 0 (0 : Int32) (sF (sF z' 32 42 0 (0)) 32 43 0 (-1))).bind fun q2 => b_X9_layWays_86 n n 0 (0) q2) ∧ (∀ s, s < 12 → xA z' 54 0 (48 + s) = xA z 81 0 s) ∧ (∀ t k j, xF z' t k j = xF z t k j) ∧ (∀ t j s, ¬ (t = 54 ∧ 48 ≤ s ∧ s < 60) → xA z' t j s = xA z t j s) ∧ z'.2.2 = z.2.2 := by
  intro m
  induction m with
  | zero =>
    intro r k z h hr hk
    obtain ⟨k, rfl⟩ : ∃ e, k = e + 1 := ⟨k - 1, by omega⟩
    refine ⟨z, ?_, fun s hs => h s (by omega), fun _ _ _ => rfl, fun _ _ _ _ => rfl, rfl⟩
    rw [b_X9_layWays_42, if_pos (show (12 : Int32) ≤ nI r from nI_le (a := 12) (by omega) (by omega))]
  | succ m ih =>
    intro r k z h hr hk
    obtain ⟨k, rfl⟩ : ∃ e, k = e + 1 := ⟨k - 1, by omega⟩
    rw [b_X9_layWays_42, if_neg (show ¬ (12 : Int32) ≤ nI r from nI_ge (b := 12) (by omega) (by omega)), show (48 : Int32) + nI r = nI (48 + r) from nI_add .., if_pos (am_inB_nI (by omega) (by omega)), if_pos (am_inB_nI (by omega) (by omega)), nI_c (by omega), nI_c (by omega), show nI r + (1 : Int32) = nI (r + 1) from nI_add ..]
    obtain ⟨z', g1, g2, g3, g4, g5⟩ := ih (r + 1) k (sA z 54 0 (48 + r) (xA z 81 0 r)) (fun s hs => by
      rw [xA_sA, xA_sA, if_neg (show ¬ (81 = 54 ∧ 0 = 0 ∧ s = 48 + r) by omega)]
      by_cases e : s = r
      · rw [if_pos ⟨rfl, rfl, by omega⟩, e]
      · rw [if_neg (by omega)]; exact h s (by omega)) (by omega) (by omega)
    refine ⟨z', g1, fun s hs => ?_, fun t k j => ?_, fun t j s hs => ?_, g5⟩
    · rw [g2 s hs, xA_sA, if_neg (by omega)]
    · rw [g3, xF_sA]
    · rw [g4 t j s hs, xA_sA, if_neg (by omega)]
section O14
variable {n tm : Nat} {x z : am_X}
theorem M_layWays {lr g a : Nat} {l : LW} {N w : Nat} {T : Nat → PS} {pi Np wp : Nat} {Tp : Nat → PS} {ls : List Nat} {tl : List Nat} {sw : Nat} {B : PS} (hn : 1000000 ≤ n) (hl : lw_ok l) (h2 : RM z lr g a l N w T pi Np wp Tp ls 1 tl sw B) (h5 : tl.length ≤ 5) (hsw : sw ≤ 1000) (hB : pOk B) (hC : (pC B).length ≤ 12 ∧ ∀ c ∈ pC B, cr_ok c) : ∃ z', f_X9_layWays n 0 z = some z' ∧ xF z' 32 42 0 = (wk l tl sw tl.length 0 B (0, -1)).1 ∧ xF z' 32 43 0 = (wk l tl sw tl.length 0 B (0, -1)).2 ∧ eM z z' := by
  obtain ⟨b1, b2, b3, b4, b5, b6⟩ := h2.2.2.2.2.2.2 rfl
  obtain ⟨_, b7, b8⟩ := h2.2.2.2.2.2.1
  unfold f_X9_layWays
  rw [show Int32.toNatClampNeg (4 : Int32) = 4 from rfl]
  obtain ⟨z1, g1, g2, g3, g4, g5⟩ := M_lay_lp (n := n) 12 0 n (sA (sA (sA (sA z 48 0 4 (xF z 32 37 0)) 49 0 4 (xF z 32 38 0)) 50 0 4 (xF z 32 39 0)) 53 0 4 (xF z 32 40 0)) (fun s hs => absurd hs (Nat.not_lt_zero s)) (by omega) (by omega)
  have f1 : hF 0 z (sF (sF z1 32 42 0 0) 32 43 0 (-1)) := ⟨fun k o => by rw [xF_sF, if_neg (by omega), xF_sF, if_neg (by omega), g3]; rfl, fun t q a b c e => by rw [xA_sF, xA_sF, g4 _ _ _ (by omega), xA_sA, if_neg (by omega), xA_sA, if_neg (by omega), xA_sA, if_neg (by omega), xA_sA, if_neg (by omega)]⟩
  have q1 : mQ (sF (sF z1 32 42 0 0) 32 43 0 (-1)) 4 B := by
    refine ⟨hB.1, hB.2.1, ?_, ?_, ?_, ?_, hC.1, hC.2, fun k hk => ?_⟩
    · rw [xA_sF, xA_sF, g4 _ _ _ (by omega), xA_sA, if_neg (by omega), xA_sA, if_neg (by omega), xA_sA, if_neg (by omega), xA_sA, if_pos ⟨rfl, rfl, rfl⟩]; exact b2
    · rw [xA_sF, xA_sF, g4 _ _ _ (by omega), xA_sA, if_neg (by omega), xA_sA, if_neg (by omega), xA_sA, if_pos ⟨rfl, rfl, rfl⟩]; exact b3
    · rw [xA_sF, xA_sF, g4 _ _ _ (by omega), xA_sA, if_neg (by omega), xA_sA, if_pos ⟨rfl, rfl, rfl⟩]; exact b4
    · rw [xA_sF, xA_sF, g4 _ _ _ (by omega), xA_sA, if_pos ⟨rfl, rfl, rfl⟩]; exact b5
    · have := hC.1
      rw [xA_sF, xA_sF, show 12 * 4 + k = 48 + k from by omega, g2 k (by omega), xA_sA, if_neg (by omega), xA_sA, if_neg (by omega), xA_sA, if_neg (by omega), xA_sA, if_neg (by omega)]; exact b6 k hk
  obtain ⟨z2, m1, m2, m3, m4, m5, m6⟩ := M_keepRow (n := n) (i := 0) (by omega) (by omega) q1
  have f2 : hF 0 (sF (sF z1 32 42 0 0) 32 43 0 (-1)) z2 := ⟨fun _ _ => m4 _ _ _, fun t q a b c e => m5 _ _ _ (by omega) (by omega)⟩
  have q2 : mQ z2 4 B := ⟨q1.1, q1.2.1, by rw [m5 _ _ _ (by omega) (by omega)]; exact q1.2.2.1, by rw [m5 _ _ _ (by omega) (by omega)]; exact q1.2.2.2.1, by rw [m5 _ _ _ (by omega) (by omega)]; exact q1.2.2.2.2.1, by rw [m5 _ _ _ (by omega) (by omega)]; exact q1.2.2.2.2.2.1, q1.2.2.2.2.2.2.1, q1.2.2.2.2.2.2.2.1, fun k hk => by rw [m5 _ _ _ (by omega) (by omega)]; exact q1.2.2.2.2.2.2.2.2 k hk⟩
  have S0 : wS z2 l tl sw (pK B) (0, -1) := ⟨f2.mL (f1.mL h2.2.1), by rw [f2.1 _ (by omega), f1.1 _ (by omega)]; exact b7, by rw [f2.1 _ (by omega), f1.1 _ (by omega)]; exact b1, fun k hk => by rw [f2.2 _ _ (by omega) (by omega) (by omega) (by omega), f1.2 _ _ (by omega) (by omega) (by omega) (by omega)]; exact b8 k hk, q2.2.2.1, by rw [m4, xF_sF, if_neg (by omega), xF_sF, if_pos ⟨rfl, rfl, rfl⟩], by rw [m4, xF_sF, if_pos ⟨rfl, rfl, rfl⟩]⟩
  obtain ⟨c, z3, r1, r2, r3, r4⟩ := R_walk (n := n) (sw := sw) (l := l) (tl := tl) (by omega) hl hsw h5 tl.length 0 z2 B (0, -1) (by omega) hB.1 S0 q2 m2 m3 (Or.inl rfl)
  have hc := wK_le h5
  obtain ⟨k, hk⟩ : ∃ k, n = k + 1 + c := ⟨n - 1 - c, by omega⟩
  refine ⟨z3, ?_, r3.2.2.2.2.2.1, r3.2.2.2.2.2.2, (f1.tr (f2.tr r4)).eM⟩
  have e0 : b_X9_layWays_86 n n 0 (0 : Int32) z2 = some z3 := by
    have := r2 (k + 1)
    rw [← hk] at this
    have e2 : b_X9_layWays_177 n (b_X9_layWays_86 n (k + 1)) 0 (nI 0 + (-1)) z3 = some z3 := by
      unfold b_X9_layWays_177
      rw [if_pos (show nI 0 + (-1 : Int32) < 0 from by decide), b_X9_layWays_86, if_pos (show nI 0 + (-1 : Int32) < 0 from by decide)]
    exact this.trans e2
  have m1' : f_X9_keepRow n 0 (0 : Int32) (sF (sF z1 32 42 0 0) 32 43 0 (-1)) = some z2 := m1
  have g1' := g1
  rw [m1', ob, e0] at g1'
  exact g1'
theorem S_walk {lr g a : Nat} {l : LW} {N w : Nat} {T : Nat → PS} {pi Np wp : Nat} {Tp : Nat → PS} {ls : List Nat} {tl : List Nat} {sw : Nat} {B : PS} (hn : 1000000 ≤ n) (hl : lw_ok l) (h1 : RC x lr g a l N w T pi Np wp Tp ls 1 tl sw B) (h5 : tl.length ≤ 5) (hsw : sw ≤ 1000) (hA : pA B = 0) : ∃ x', f_X4_walk n 0 0 x = some x' ∧ xF x' 7 5 0 = (wk l tl sw tl.length 0 B (0, -1)).1 ∧ xF x' 7 6 0 = (wk l tl sw tl.length 0 B (0, -1)).2 ∧ cW 20 x x' := by
  obtain ⟨_, b2, b3⟩ := h1.2.2.2.2.2.1
  obtain ⟨b4, b5⟩ := h1.2.2.2.2.2.2 rfl
  unfold f_X4_walk
  rw [b2]
  have w0 : cW 20 x (sF (sF x 7 5 0 0) 7 6 0 (-1)) := ⟨fun t k i a b => by rw [xF_sF, if_neg (by omega), xF_sF, if_neg (by omega)], fun _ _ _ _ => rfl, fun _ _ => rfl, fun h => h⟩
  by_cases e : tl.length = 0
  · rw [e, if_neg (fun q => q rfl), b5.2.2.2.1]
    unfold f_X4_reckon
    have y5 : xF (sF (sF x 7 5 0 0) 7 6 0 (-1)) 7 5 0 = 0 := by rw [xF_sF, if_neg (by omega), xF_sF, if_pos ⟨rfl, rfl, rfl⟩]
    have y6 : xF (sF (sF x 7 5 0 0) 7 6 0 (-1)) 7 6 0 = -1 := by rw [xF_sF, if_pos ⟨rfl, rfl, rfl⟩]
    rw [ob, y5, y6]
    refine ⟨_, rfl, ?_, ?_, w0.tr ⟨fun t k i a b => by rw [xF_sF, if_neg (by omega), xF_sF, if_neg (by omega)], fun _ _ _ _ => rfl, fun _ _ => rfl, fun h => h⟩⟩
    · rw [xF_sF, if_neg (by omega), xF_sF, if_pos ⟨rfl, rfl, rfl⟩]; rfl
    · rw [xF_sF, if_pos ⟨rfl, rfl, rfl⟩]; rfl
  · rw [if_pos (show ¬ nI tl.length = 0 from fun q => e ((z0 (by omega)).mp q))]
    have S0 : cS (sF (sF x 7 5 0 0) 7 6 0 (-1)) l tl sw (0, -1) := ⟨w0.cL h1.2.1, by rw [xF_sF, if_neg (by omega), xF_sF, if_neg (by omega)]; exact b2, by rw [xF_sF, if_neg (by omega), xF_sF, if_neg (by omega)]; exact b4, b3, by rw [xF_sF, if_neg (by omega), xF_sF, if_pos ⟨rfl, rfl, rfl⟩], by rw [xF_sF, if_pos ⟨rfl, rfl, rfl⟩]⟩
    obtain ⟨m, hm⟩ : ∃ m, tl.length = m + 1 := ⟨tl.length - 1, by omega⟩
    obtain ⟨x', g1, g2, g3⟩ := C_walk (n := n) (sw := sw) (l := l) (tl := tl) (by omega) hl hsw h5 m 0 8 _ B (0, -1) (by omega) (by omega) (w0.cP (by omega) b5) hA S0
    rw [hm]
    have g1' : f_X4_walkFrom n 8 0 (0 : Int32) 0 (sF (sF x 7 5 0 0) 7 6 0 (-1)) = some x' := g1
    exact ⟨x', by rw [g1', ob], g2.2.2.2.2.1, g2.2.2.2.2.2, w0.tr g3⟩
theorem RC_walks {lr g a : Nat} {l : LW} {N w : Nat} {T : Nat → PS} {pi Np wp : Nat} {Tp : Nat → PS} {ls : List Nat} {bg : Nat} {tl : List Nat} {sw : Nat} {B : PS} {a' : Nat} (h : RC x lr g a l N w T pi Np wp Tp ls bg tl sw B) : RC (sF x 0 11 0 (nI a')) lr g a' l N w T pi Np wp Tp ls bg tl sw B := by
  have e : eX (fun t k _ => t = 0 ∧ k = 11) (fun t _ => t = 1000) x (sF x 0 11 0 (nI a')) := ⟨fun t k i o => by rw [xF_sF, if_neg (by omega)], fun _ _ _ _ => rfl, fun _ _ => rfl⟩
  obtain ⟨⟨a1, a2, a3, a4⟩, e2⟩ := h
  exact ⟨⟨by rw [xF_sF, if_neg (by omega)]; exact a1, by rw [xF_sF, if_neg (by omega)]; exact a2, by rw [xF_sF, if_pos ⟨rfl, rfl, rfl⟩], by rw [xF_sF, if_neg (by omega)]; exact a4⟩, e.L (by omega) (by omega) e2.1, e.T (by intro k; omega) (by intro i _ k; omega) (by intro i _; omega) e2.2.1, e.T (by intro k; omega) (by intro i _ k; omega) (by intro i _; omega) e2.2.2.1, e.G (by omega) (by omega) e2.2.2.2.1, e.B (by intro k; omega) (by omega) e2.2.2.2.2.1, e.B2 (by omega) (by intro k; omega) (by omega) e2.2.2.2.2.2⟩
theorem RC_gains {lr g a : Nat} {l : LW} {N w : Nat} {T : Nat → PS} {pi Np wp : Nat} {Tp : Nat → PS} {ls : List Nat} {bg : Nat} {tl : List Nat} {sw : Nat} {B : PS} {g' : Nat} (h : RC x lr g a l N w T pi Np wp Tp ls bg tl sw B) : RC (sF x 0 10 0 (nI g')) lr g' a l N w T pi Np wp Tp ls bg tl sw B := by
  have e : eX (fun t k _ => t = 0 ∧ k = 10) (fun t _ => t = 1000) x (sF x 0 10 0 (nI g')) := ⟨fun t k i o => by rw [xF_sF, if_neg (by omega)], fun _ _ _ _ => rfl, fun _ _ => rfl⟩
  obtain ⟨⟨a1, a2, a3, a4⟩, e2⟩ := h
  exact ⟨⟨by rw [xF_sF, if_neg (by omega)]; exact a1, by rw [xF_sF, if_pos ⟨rfl, rfl, rfl⟩], by rw [xF_sF, if_neg (by omega)]; exact a3, by rw [xF_sF, if_neg (by omega)]; exact a4⟩, e.L (by omega) (by omega) e2.1, e.T (by intro k; omega) (by intro i _ k; omega) (by intro i _; omega) e2.2.1, e.T (by intro k; omega) (by intro i _ k; omega) (by intro i _; omega) e2.2.2.1, e.G (by omega) (by omega) e2.2.2.2.1, e.B (by intro k; omega) (by omega) e2.2.2.2.2.1, e.B2 (by omega) (by intro k; omega) (by omega) e2.2.2.2.2.2⟩
theorem RM_walks {lr g a : Nat} {l : LW} {N w : Nat} {T : Nat → PS} {pi Np wp : Nat} {Tp : Nat → PS} {ls : List Nat} {bg : Nat} {tl : List Nat} {sw : Nat} {B : PS} {a' : Nat} (h : RM z lr g a l N w T pi Np wp Tp ls bg tl sw B) : RM (sF z 32 35 0 (nI a')) lr g a' l N w T pi Np wp Tp ls bg tl sw B := by
  have e : eY (fun k => k = 35) (fun t _ => t = 1000) z (sF z 32 35 0 (nI a')) := ⟨fun k o => by rw [xF_sF, if_neg (by omega)], fun _ _ _ => rfl⟩
  obtain ⟨⟨a1, a2, a3, a4, a5⟩, e2⟩ := h
  exact ⟨⟨by rw [xF_sF, if_neg (by omega)]; exact a1, by rw [xF_sF, if_neg (by omega)]; exact a2, by rw [xF_sF, if_neg (by omega)]; exact a3, by rw [xF_sF, if_pos ⟨rfl, rfl, rfl⟩], by rw [xF_sF, if_neg (by omega)]; exact a5⟩, e.L (by omega) (by omega) e2.1, e.T (by omega) (by omega) (by omega) e2.2.1, e.I (by omega) (by omega) e2.2.2.1, e.G (by omega) (by omega) e2.2.2.2.1, e.B (by omega) (by omega) e2.2.2.2.2.1, e.B2 (by omega) (by omega) e2.2.2.2.2.2⟩
theorem RM_gains {lr g a : Nat} {l : LW} {N w : Nat} {T : Nat → PS} {pi Np wp : Nat} {Tp : Nat → PS} {ls : List Nat} {bg : Nat} {tl : List Nat} {sw : Nat} {B : PS} {g' : Nat} (h : RM z lr g a l N w T pi Np wp Tp ls bg tl sw B) : RM (sF z 32 15 0 (nI g')) lr g' a l N w T pi Np wp Tp ls bg tl sw B := by
  have e : eY (fun k => k = 15) (fun t _ => t = 1000) z (sF z 32 15 0 (nI g')) := ⟨fun k o => by rw [xF_sF, if_neg (by omega)], fun _ _ _ => rfl⟩
  obtain ⟨⟨a1, a2, a3, a4, a5⟩, e2⟩ := h
  exact ⟨⟨by rw [xF_sF, if_neg (by omega)]; exact a1, by rw [xF_sF, if_neg (by omega)]; exact a2, by rw [xF_sF, if_pos ⟨rfl, rfl, rfl⟩], by rw [xF_sF, if_neg (by omega)]; exact a4, by rw [xF_sF, if_neg (by omega)]; exact a5⟩, e.L (by omega) (by omega) e2.1, e.T (by omega) (by omega) (by omega) e2.2.1, e.I (by omega) (by omega) e2.2.2.1, e.G (by omega) (by omega) e2.2.2.2.1, e.B (by omega) (by omega) e2.2.2.2.2.1, e.B2 (by omega) (by omega) e2.2.2.2.2.2⟩
theorem J_ways (hn : 1000000 ≤ n) (ht : tm < 1000) (hk : ∀ i, xK x i < 5) (h : Rel tm x z) : (f_X8_ways n 0 x = some (-103, x) ∧ f_X8_owed n 0 x = some (-103, x) ∧ f_X9_ways n 0 z = some (-103, z) ∧ f_X9_owed n 0 z = some (-103, z)) ∨ ∃ u v x' z', f_X8_ways n 0 x = some (u, x') ∧ f_X8_owed n 0 x = some (v, x') ∧ f_X9_ways n 0 z = some (u, z') ∧ f_X9_owed n 0 z = some (v, z') ∧ Rel (tm + 1) x' z' ∧ ∀ i, xK x' i < 5 := by
  obtain ⟨lr, g, a, l, N, w, T, pi, Np, wp, Tp, ls, bg, tl, sw, B, h1, h2, h3⟩ := h
  have hb := h3.2.1.2.2.2
  have ha := h3.2.1.2.1
  have hbm := h2.2.2.2.2.2.1.1
  unfold f_X8_ways f_X8_owed f_X9_ways f_X9_owed f_X9_mayBook
  rw [h1.2.2.2.2.2.1.1, h1.1.2.2.1, h2.1.2.2.2.1]
  by_cases e : bg = 1
  · subst e
    rw [if_pos rfl] at hbm
    obtain ⟨b, hb4, hbz⟩ := hbm
    rw [if_neg (show ¬ nI 1 = 0 from n10), if_neg (show ¬ nI 1 = 0 from n10), hbz, if_neg (nI_ne_m1 (show b < 2147483648 by omega))]
    by_cases e40 : a < 40
    · right
      rw [if_pos (show nI a < (40 : Int32) from (nI_ltI (b := 40) (by omega) (by omega)).mpr e40), if_pos (show nI a < (40 : Int32) from (nI_ltI (b := 40) (by omega) (by omega)).mpr e40), if_neg (show ¬ (40 : Int32) ≤ nI a from nI_ge (b := 40) (by omega) (by omega)), ob, ob, if_pos n10, if_pos n10]
      dsimp only
      rw [h2.1.2.2.2.1, show nI a + (1 : Int32) = nI (a + 1) from nI_add ..]
      have hlr := (h3.2.2.2.2.2.2.2.2.1 rfl).2
      have hl : lw_ok l := h3.2.2.2.2.1.resolve_left hlr
      have h1' := RC_walks (a' := a + 1) h1
      have h2' := RM_walks (a' := a + 1) h2
      have h5 := h3.2.2.2.2.2.2.2.1.1
      have hsw : sw ≤ 1000 := by have := h3.1; omega
      have hB := (h1.2.2.2.2.2.2 rfl).2
      obtain ⟨x1, g1, g2, g3, g4⟩ := S_walk (n := n) hn hl h1' h5 hsw (h3.2.2.2.2.2.2.2.2.1 rfl).1
      obtain ⟨z1, k1, k2, k3, k4⟩ := M_layWays (n := n) hn hl h2' h5 hsw hB.1 ⟨hB.2.2.2.2.2.2.2.1, hB.2.2.2.2.2.2.2.2.1⟩
      refine ⟨_, _, x1, z1, by rw [g1, ob, g2], by rw [g1, ob, g3], by rw [k1, ob, k2], by rw [k1, ob, k3], Rel.up ⟨lr, g, a + 1, l, N, w, T, pi, Np, wp, Tp, ls, 1, tl, sw, B, g4.eC.RC h1', k4.RM h2', ?_⟩ ht, g4.2.2.2 hk⟩
      obtain ⟨i1, i2, i3⟩ := h3
      exact ⟨i1, ⟨i2.1, by omega, i2.2.2⟩, i3⟩
    · left
      rw [if_neg (show ¬ nI a < (40 : Int32) from fun q => e40 ((nI_ltI (b := 40) (by omega) (by omega)).mp q)), if_neg (show ¬ nI a < (40 : Int32) from fun q => e40 ((nI_ltI (b := 40) (by omega) (by omega)).mp q)), if_pos (show (40 : Int32) ≤ nI a from nI_le (a := 40) (by omega) (by omega)), ob, ob, if_neg (fun q => q rfl), if_neg (fun q => q rfl)]
      exact ⟨rfl, rfl, rfl, rfl⟩
  · left
    have e0 : bg = 0 := by omega
    rw [if_neg e] at hbm
    rw [e0, if_pos (show nI 0 = 0 from rfl), if_pos (show nI 0 = 0 from rfl), hbm, if_pos rfl, ob, ob, if_neg (fun q => q rfl), if_neg (fun q => q rfl)]
    exact ⟨rfl, rfl, rfl, rfl⟩
theorem O_ways (hn : 1000000 ≤ n) (ht : tm < 1000) (hk : ∀ i, xK x i < 5) (h : Rel tm x z) : Ok tm (f_X8_ways n 0 x) (f_X9_ways n 0 z) := by
  rcases J_ways (n := n) hn ht hk h with ⟨a, b, c, d⟩ | ⟨u, v, x', z', a, b, c, d, e, f⟩
  · exact Ok.same0 (v := -103) h hk ht a c
  · exact ⟨u, x', z', a, c, e, f⟩
theorem O_owed (hn : 1000000 ≤ n) (ht : tm < 1000) (hk : ∀ i, xK x i < 5) (h : Rel tm x z) : Ok tm (f_X8_owed n 0 x) (f_X9_owed n 0 z) := by
  rcases J_ways (n := n) hn ht hk h with ⟨a, b, c, d⟩ | ⟨u, v, x', z', a, b, c, d, e, f⟩
  · exact Ok.same0 (v := -103) h hk ht b d
  · exact ⟨v, x', z', b, d, e, f⟩
end O14
