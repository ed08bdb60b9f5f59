/-! calls: fault, law -/
theorem dR_put {x z : am_X} {s r : Nat} {D : LW} {u v : Int32} (h : dR x z s r D) : dR x (sF (sF z 32 18 0 u) 32 19 0 v) s r D := by
  obtain ⟨h0, ⟨a1, a2, a3⟩, b1, b2, b3, b4, b5, b6⟩ := h
  exact ⟨h0, ⟨a1, a2, by rw [xF_sF, if_neg (by omega), xF_sF, if_neg (by omega)]; exact a3⟩, b1, b2, b3, b4, b5, fun q => ⟨(b6 q).1, by rw [xF_sF, if_neg (by omega), xF_sF, if_neg (by omega)]; exact (b6 q).2.1, (b6 q).2.2⟩⟩
theorem gM_put {z : am_X} {u v : Int32} : gM z (sF (sF z 32 18 0 u) 32 19 0 v) := ⟨fun k o => by rw [xF_sF, if_neg (by omega), xF_sF, if_neg (by omega)], fun _ _ _ => rfl⟩
theorem J_read_lp {n : Nat} {ls : List Nat} (hls : ls.length ≤ 30) (hl : ∀ c ∈ ls, 32 ≤ c ∧ c ≤ 126) : ∀ (m p k k' s r : Nat) (D : LW) (x z : am_X), dR x z s r D → (xF x 1 2 0 = nI ls.length ∧ ∀ k, k < ls.length → xA x 8 0 k = nI (ls.getD k 0)) → (xF z 32 16 0 = nI ls.length ∧ ∀ k, k < ls.length → xA z 57 0 k = nI (ls.getD k 0)) → p + m = ls.length → m < k → m + 1 < k' → ∃ (q : Nat) (x' z' : am_X), q ≤ ls.length ∧ b_X5_firstFault_12 n k 0 (nI p) x = some (nI q, x') ∧ b_X9_readLaw_11 n k' 0 (nI s) (nI p) (nI 1) z = some z' ∧ gC x x' ∧ gM z z' ∧ xF z' 32 18 0 = nI q ∧ ((q < ls.length ∧ xF z' 32 19 0 = 0) ∨ (q = ls.length ∧ ∃ s' r' D', dR x' z' s' r' D' ∧ xF z' 32 19 0 = (if s' = 6 then 1 else 0))) := by
  intro m
  induction m with
  | zero =>
    intro p k k' s r D x z h hx hz hp hk hk'
    obtain ⟨k, rfl⟩ : ∃ e, k = e + 1 := ⟨k - 1, by omega⟩
    obtain ⟨k', rfl⟩ : ∃ e, k' = e + 1 := ⟨k' - 1, by omega⟩
    have hs := h.1.1
    have e : nI ls.length ≤ nI p := nI_le (by omega) (by omega)
    refine ⟨ls.length, x, sF (sF z 32 18 0 (nI p)) 32 19 0 (if s = 6 then 1 else 0), Nat.le_refl _, ?_, ?_, gC.rf, gM_put, by rw [xF_sF, if_neg (by omega), xF_sF, if_pos ⟨rfl, rfl, rfl⟩, show p = ls.length from by omega], Or.inr ⟨rfl, s, r, D, dR_put h, by rw [xF_sF, if_pos ⟨rfl, rfl, rfl⟩]⟩⟩
    · rw [b_X5_firstFault_12, hx.1, if_pos e]
    · rw [b_X9_readLaw_11, hz.1, if_pos e]
      unfold b_X9_readLaw_74
      rw [hz.1, if_neg (show ¬ ¬ nI p = nI ls.length from fun q => q (by rw [show p = ls.length from by omega]))]
      by_cases e6 : s = 6
      · rw [if_neg (show ¬ ¬ nI s = (6 : Int32) from fun q => q (by rw [e6]; rfl)), if_pos e6]
      · rw [if_pos (show ¬ nI s = (6 : Int32) from fun q => e6 ((nI_eq (b := 6) (by omega) (by omega)).mp q)), if_neg e6]
  | succ m ih =>
    intro p k k' s r D x z h hx hz hp hk hk'
    obtain ⟨k, rfl⟩ : ∃ e, k = e + 1 := ⟨k - 1, by omega⟩
    obtain ⟨k', rfl⟩ : ∃ e, k' = e + 1 := ⟨k' - 1, by omega⟩
    have hpl : p < ls.length := by omega
    have hc := hl _ (cr_mem hpl)
    have e : ¬ nI ls.length ≤ nI p := nI_ge (by omega) (by omega)
    have at1 : f_X5_at n 0 (nI p) x = some (nI (ls.getD p 0), x) := by
      unfold f_X5_at
      rw [if_neg (show ¬ nI p < 0 from fun e => by rw [lt_z, nI_toInt (by omega)] at e; omega), show (30 : Int32) = nI 30 from rfl, if_neg (nI_ge (by omega) (by omega)), if_pos (am_inB_nI (by omega) (by omega)), nI_c (by omega), hx.2 p hpl]
    rw [b_X5_firstFault_12, hx.1, if_neg e, at1, ob, b_X9_readLaw_11, hz.1, if_neg e, if_neg (show ¬ nI 1 = 0 from n10), if_pos (am_inB_nI (by omega) (by omega)), nI_c (by omega), hz.2 p hpl]
    rcases D_step (n := n) hc.2 h with ⟨x1, z1, g1, g2, g3, g4⟩ | ⟨x1, z1, s1, r1, D1, g1, g2, g3, g4, g5⟩
    · have hz1 : xF z1 32 16 0 = nI ls.length := by rw [g4.1 _ (by omega)]; exact hz.1
      refine ⟨p, x1, sF (sF z1 32 18 0 (nI p)) 32 19 0 0, by omega, ?_, ?_, g3, g4.tr gM_put, by rw [xF_sF, if_neg (by omega), xF_sF, if_pos ⟨rfl, rfl, rfl⟩], Or.inl ⟨hpl, by rw [xF_sF, if_pos ⟨rfl, rfl, rfl⟩]⟩⟩
      · rw [g1, ob, if_neg (fun q => q rfl)]
      · rw [g2, ob, if_pos rfl]
        unfold b_X9_readLaw_47
        rw [if_pos rfl]
        unfold b_X9_readLaw_58
        rw [if_pos rfl]
        unfold b_X9_readLaw_69
        obtain ⟨k', rfl⟩ : ∃ e, k' = e + 1 := ⟨k' - 1, by omega⟩
        rw [show nI p + (0 : Int32) = nI p from Int32.add_zero _, b_X9_readLaw_11]
        dsimp only
        rw [hz1, if_neg e, if_pos rfl]
        unfold b_X9_readLaw_74
        rw [hz1, if_pos (show ¬ nI p = nI ls.length from fun q => by rw [nI_eqi (by omega) (by omega)] at q; omega)]
    · have hx1 : xF x1 1 2 0 = nI ls.length ∧ ∀ k, k < ls.length → xA x1 8 0 k = nI (ls.getD k 0) := ⟨by rw [g4.1 _ _ _ (by omega) (by omega)]; exact hx.1, fun k hk => by rw [g4.2.1 _ _ _ (by omega)]; exact hx.2 k hk⟩
      have hz1 : xF z1 32 16 0 = nI ls.length ∧ ∀ k, k < ls.length → xA z1 57 0 k = nI (ls.getD k 0) := ⟨by rw [g5.1 _ (by omega)]; exact hz.1, fun k hk => by rw [g5.2 _ _ (by omega)]; exact hz.2 k hk⟩
      obtain ⟨q, x', z', i0, i1, i2, i3, i4, i5, i6⟩ := ih (p + 1) k k' s1 r1 D1 x1 z1 g3 hx1 hz1 (by omega) (by omega) (by omega)
      have ep : nI p + (1 : Int32) = nI (p + 1) := nI_add ..
      refine ⟨q, x', z', i0, ?_, ?_, g4.tr i3, g5.tr i4, i5, i6⟩
      · rw [g1, ob, if_pos n10, ep]
        exact i1
      · rw [g2, ob, if_neg (nI_ne_m1 (by have := g3.1.1; omega))]
        unfold b_X9_readLaw_47
        rw [if_neg n10]
        unfold b_X9_readLaw_58
        rw [if_neg n10]
        unfold b_X9_readLaw_69
        rw [ep]
        exact i2
def tSum (f : Nat → Nat) : Nat → Nat → Int32 → Int32
  | _, 0, v => v
  | d, m + 1, v => tSum f (d + 1) m (v + nI (f d))
section O13
variable {n tm : Nat} {x z : am_X}
theorem J_read {lr g a : Nat} {l : LW} {N w : Nat} {T : Nat → PS} {pi Np wp : Nat} {Tp : Nat → PS} {ls : List Nat} {bg : Nat} {tl : List Nat} {sw : Nat} {B : PS} (hn : 100 ≤ n) (h1 : RC x lr g a l N w T pi Np wp Tp ls bg tl sw B) (h2 : RM z lr g a l N w T pi Np wp Tp ls bg tl sw B) (h3 : RI tm lr g a l N w T pi Np wp Tp ls bg tl sw B) : ∃ (q : Nat) (x' z' : am_X), q ≤ ls.length ∧ f_X5_firstFault n 0 x = some (nI q, x') ∧ f_X9_readLaw n 0 z = some z' ∧ gC x x' ∧ gM z z' ∧ xF z' 32 18 0 = nI q ∧ ((q < ls.length ∧ xF z' 32 19 0 = 0) ∨ (q = ls.length ∧ ∃ s' r' D', dR x' z' s' r' D' ∧ xF z' 32 19 0 = (if s' = 6 then 1 else 0))) := by
  have hls := h3.2.2.2.2.2.2.1
  have d0 : dR (sF (sF x 1 3 0 0) 1 4 0 0) (sF z 32 20 0 0) 0 0 l := ⟨⟨by omega, by omega⟩, ⟨by rw [xF_sF, if_neg (by omega), xF_sF, if_pos ⟨rfl, rfl, rfl⟩]; rfl, by rw [xF_sF, if_pos ⟨rfl, rfl, rfl⟩]; rfl, by rw [xF_sF, if_pos ⟨rfl, rfl, rfl⟩]; rfl⟩, fun d hd hdr => absurd hdr (by omega), fun d hd hdr => absurd hdr (by omega), fun d hd hdr => absurd hdr (by omega), fun q _ => absurd q (by omega), fun q => absurd q (by omega), fun q => absurd q (by omega)⟩
  have f1 : gC x (sF (sF x 1 3 0 0) 1 4 0 0) := ⟨fun t k i a b => by rw [xF_sF, if_neg (by omega), xF_sF, if_neg (by omega)], fun t i q a => rfl, rfl⟩
  have f2 : gM z (sF z 32 20 0 0) := ⟨fun k o => by rw [xF_sF, if_neg (by omega)], fun t q o => rfl⟩
  obtain ⟨q, x', z', i0, i1, i2, i3, i4, i5, i6⟩ := J_read_lp (n := n) hls.1 hls.2 ls.length 0 n n 0 0 l _ _ d0 ⟨by rw [xF_sF, if_neg (by omega), xF_sF, if_neg (by omega)]; exact h1.2.2.2.2.1.1, h1.2.2.2.2.1.2⟩ ⟨by rw [xF_sF, if_neg (by omega)]; exact h2.2.2.2.2.1.1, h2.2.2.2.2.1.2⟩ (by omega) (by omega) (by omega)
  exact ⟨q, x', z', i0, i1, i2, f1.tr i3, f2.tr i4, i5, i6⟩
theorem O_fault (hn : 100 ≤ n) (ht : tm < 1000) (hk : ∀ i, xK x i < 5) (h : Rel tm x z) : Ok tm (f_X8_fault n 0 x) (f_X9_fault n 0 z) := by
  have h0 := h
  obtain ⟨lr, g, a, l, N, w, T, pi, Np, wp, Tp, ls, bg, tl, sw, B, h1, h2, h3⟩ := h
  obtain ⟨q, x', z', i0, i1, i2, i3, i4, i5, i6⟩ := J_read (n := n) hn h1 h2 h3
  unfold f_X8_fault f_X9_fault
  exact Ok.same (v := nI q) h0 hk ht (by rw [i1, ob]) (by rw [i2, ob, i5]) i3.eC i4.eM
theorem S_copyL_lp {D : LW} : ∀ (m d k : Nat) (x : am_X), (∀ e, e < 4 → xA x 9 1 e = nI (D.1 e) ∧ xA x 10 1 e = nI (D.2.1 e) ∧ xA x 11 1 e = nI (D.2.2.1 e)) → xF x 2 3 1 = nI D.2.2.2 → (∀ e, e < d → xA x 9 0 e = nI (D.1 e) ∧ xA x 10 0 e = nI (D.2.1 e) ∧ xA x 11 0 e = nI (D.2.2.1 e)) → d + m = 4 → m < k → ∃ x', b_X3_copy_2 n k 0 1 (nI d) x = some x' ∧ cL x' 0 D ∧ eX (fun t k i => t = 2 ∧ k = 3 ∧ i = 0) (fun t i => (t = 9 ∨ t = 10 ∨ t = 11) ∧ i = 0) x x' ∧ x'.2.2 = x.2.2 := by
  intro m
  induction m with
  | zero =>
    intro d k x h hl hd hm hk
    obtain ⟨k, rfl⟩ : ∃ e, k = e + 1 := ⟨k - 1, by omega⟩
    refine ⟨sF x 2 3 0 (nI D.2.2.2), ?_, ⟨fun e he => hd e (by omega), by rw [xF_sF, if_pos ⟨rfl, rfl, rfl⟩]⟩, ⟨fun t k i o => by rw [xF_sF, if_neg o], fun _ _ _ _ => rfl, fun _ _ => rfl⟩, rfl⟩
    rw [b_X3_copy_2, if_pos (show (4 : Int32) ≤ nI d from nI_le (a := 4) (by omega) (by omega)), hl]
  | succ m ih =>
    intro d k x h hl hd hm hk
    obtain ⟨k, rfl⟩ : ∃ e, k = e + 1 := ⟨k - 1, by omega⟩
    have i4 : am_inB (nI d) 4 = true := am_inB_nI (by omega) (by omega)
    have o : ∀ t i r, ¬ ((t = 9 ∨ t = 10 ∨ t = 11) ∧ i = 0 ∧ r = d) → xA (sA (sA (sA x 9 0 d (xA x 9 1 d)) 10 0 d (xA x 10 1 d)) 11 0 d (xA x 11 1 d)) t i r = xA x t i r := fun t i r a => by rw [xA_sA, if_neg (by omega), xA_sA, if_neg (by omega), xA_sA, if_neg (by omega)]
    obtain ⟨x', g1, g2, g3, g4⟩ := ih (d + 1) k (sA (sA (sA x 9 0 d (xA x 9 1 d)) 10 0 d (xA x 10 1 d)) 11 0 d (xA x 11 1 d)) (fun e he => by
      have := h e he
      exact ⟨by rw [o _ _ _ (by omega)]; exact this.1, by rw [o _ _ _ (by omega)]; exact this.2.1, by rw [o _ _ _ (by omega)]; exact this.2.2⟩) hl (fun e he => by
      by_cases ed : e = d
      · have := h d (by omega)
        rw [ed]
        exact ⟨by rw [xA_sA, if_neg (by omega), xA_sA, if_neg (by omega), xA_sA, if_pos ⟨rfl, rfl, rfl⟩]; exact this.1, by rw [xA_sA, if_neg (by omega), xA_sA, if_pos ⟨rfl, rfl, rfl⟩]; exact this.2.1, by rw [xA_sA, if_pos ⟨rfl, rfl, rfl⟩]; exact this.2.2⟩
      · have := hd e (by omega)
        exact ⟨by rw [o _ _ _ (by omega)]; exact this.1, by rw [o _ _ _ (by omega)]; exact this.2.1, by rw [o _ _ _ (by omega)]; exact this.2.2⟩) (by omega) (by omega)
    refine ⟨x', ?_, g2, ⟨fun t k i a => g3.1 t k i a, fun t i r a => by rw [g3.2.1 t i r a, o _ _ _ (by omega)], fun i a => g3.2.2 i a⟩, g4⟩
    rw [b_X3_copy_2, if_neg (show ¬ (4 : Int32) ≤ nI d from nI_ge (b := 4) (by omega) (by omega))]
    simp only [i4, ↓reduceIte]
    rw [nI_c (by omega), show nI d + (1 : Int32) = nI (d + 1) from nI_add ..]
    exact g1
theorem S_allTerms_lp {D : LW} (hL : cL x 0 D) : ∀ (m d k : Nat) (v : Int32), d + m = 4 → m < k → b_X3_allTerms_4 n k 0 v (nI d) x = some ((tSum D.1 d m v), x) := by
  intro m
  induction m with
  | zero =>
    intro d k v hd hk
    obtain ⟨k, rfl⟩ : ∃ e, k = e + 1 := ⟨k - 1, by omega⟩
    rw [b_X3_allTerms_4, if_pos (show (4 : Int32) ≤ nI d from nI_le (a := 4) (by omega) (by omega))]
    rfl
  | succ m ih =>
    intro d k v hd hk
    obtain ⟨k, rfl⟩ : ∃ e, k = e + 1 := ⟨k - 1, by omega⟩
    rw [b_X3_allTerms_4, if_neg (show ¬ (4 : Int32) ≤ nI d from nI_ge (b := 4) (by omega) (by omega)), if_pos (am_inB_nI (by omega) (by omega)), nI_c (by omega), (hL.1 d (by omega)).1, show nI d + (1 : Int32) = nI (d + 1) from nI_add .., ih (d + 1) k _ (by omega) (by omega)]
    rfl
theorem M_law_lp {D : LW} : ∀ (m d k : Nat) (v : Int32) (z : am_X), (∀ e, e < 4 → xA z 62 0 e = nI (D.1 e) ∧ xA z 63 0 e = nI (D.2.1 e) ∧ xA z 64 0 e = nI (D.2.2.1 e)) → (∀ e, e < d → xA z 43 0 e = nI (D.1 e) ∧ xA z 44 0 e = nI (D.2.1 e) ∧ xA z 45 0 e = nI (D.2.2.1 e)) → d + m = 4 → m < k → ∃ z', b_X9_law_18 n k 0 v (nI d) z = ((f_X9_lapseAll n 0 (sF (sF (sF (sF (sF (sF z' 32 2 0 (xF z' 32 21 0)) 32 0 0 (1)) 32 1 0 ((xF z' 32 1 0) + (1))) 32 32 0 (-1)) 32 33 0 (0)) 32 16 0 (0))).bind fun q2 => some ((tSum D.1 d m v), q2)) ∧ (∀ e, e < 4 → xA z' 43 0 e = nI (D.1 e) ∧ xA z' 44 0 e = nI (D.2.1 e) ∧ xA z' 45 0 e = nI (D.2.2.1 e)) ∧ (∀ t k j, xF z' t k j = xF z t k j) ∧ (∀ t q, ¬ (43 ≤ t ∧ t ≤ 45) → xA z' t 0 q = xA z t 0 q) := by
  intro m
  induction m with
  | zero =>
    intro d k v z h hd hm hk
    obtain ⟨k, rfl⟩ : ∃ e, k = e + 1 := ⟨k - 1, by omega⟩
    refine ⟨z, ?_, fun e he => hd e (by omega), fun _ _ _ => rfl, fun _ _ _ => rfl⟩
    rw [b_X9_law_18, if_pos (show (4 : Int32) ≤ nI d from nI_le (a := 4) (by omega) (by omega))]
    rfl
  | succ m ih =>
    intro d k v z h hd hm hk
    obtain ⟨k, rfl⟩ : ∃ e, k = e + 1 := ⟨k - 1, by omega⟩
    have i4 : am_inB (nI d) 4 = true := am_inB_nI (by omega) (by omega)
    have o : ∀ t i r, ¬ ((t = 43 ∨ t = 44 ∨ t = 45) ∧ r = d) → xA (sA (sA (sA z 43 0 d (xA z 62 0 d)) 44 0 d (xA z 63 0 d)) 45 0 d (xA z 64 0 d)) t i r = xA z t i r := fun t i r a => by rw [xA_sA, if_neg (by omega), xA_sA, if_neg (by omega), xA_sA, if_neg (by omega)]
    obtain ⟨z', g1, g2, g3, g4⟩ := ih (d + 1) k (v + nI (D.1 d)) (sA (sA (sA z 43 0 d (xA z 62 0 d)) 44 0 d (xA z 63 0 d)) 45 0 d (xA z 64 0 d)) (fun e he => by
      have := h e he
      exact ⟨by rw [o _ _ _ (by omega)]; exact this.1, by rw [o _ _ _ (by omega)]; exact this.2.1, by rw [o _ _ _ (by omega)]; exact this.2.2⟩) (fun e he => by
      by_cases ed : e = d
      · have := h d (by omega)
        rw [ed]
        exact ⟨by rw [xA_sA, if_neg (by omega), xA_sA, if_neg (by omega), xA_sA, if_pos ⟨rfl, rfl, rfl⟩]; exact this.1, by rw [xA_sA, if_neg (by omega), xA_sA, if_pos ⟨rfl, rfl, rfl⟩]; exact this.2.1, by rw [xA_sA, if_pos ⟨rfl, rfl, rfl⟩]; exact this.2.2⟩
      · have := hd e (by omega)
        exact ⟨by rw [o _ _ _ (by omega)]; exact this.1, by rw [o _ _ _ (by omega)]; exact this.2.1, by rw [o _ _ _ (by omega)]; exact this.2.2⟩) (by omega) (by omega)
    refine ⟨z', ?_, g2, fun t k j => by rw [g3, xF_sA, xF_sA, xF_sA], fun t r a => by rw [g4 t r a, o _ _ _ (by omega)]⟩
    rw [b_X9_law_18, if_neg (show ¬ (4 : Int32) ≤ nI d from nI_ge (b := 4) (by omega) (by omega))]
    simp only [i4, ↓reduceIte]
    rw [nI_c (by omega), show nI d + (1 : Int32) = nI (d + 1) from nI_add .., show v + xA z 62 0 d = v + nI (D.1 d) from by rw [(h d (by omega)).1], g1]
    rfl
theorem O_law (hn : 100 ≤ n) (ht : tm < 1000) (hk : ∀ i, xK x i < 5) (h : Rel tm x z) : Ok tm (f_X8_law n 0 x) (f_X9_law n 0 z) := by
  have h0 := h
  obtain ⟨lr, g, a, l, N, w, T, pi, Np, wp, Tp, ls, bg, tl, sw, B, h1, h2, h3⟩ := h
  obtain ⟨q, x1, z1, i0, i1, i2, i3, i4, i5, i6⟩ := J_read (n := n) hn h1 h2 h3
  have hls := h3.2.2.2.2.2.2.1.1
  have hx1 := i3.eC.RC h1
  have hz1 := i4.eM.RM h2
  unfold f_X8_law f_X9_law f_X5_isLaw
  rw [i1, ob, i2, ob, hx1.2.2.2.2.1.1]
  rcases i6 with ⟨e1, e2⟩ | ⟨e1, s, r, D, d, e2⟩
  · rw [if_pos (show ¬ nI q = nI ls.length from fun w => by rw [nI_eqi (by omega) (by omega)] at w; omega), ob, if_neg (fun q => q rfl), e2, if_neg (fun q => q rfl)]
    exact Ok.same (v := -103) h0 hk ht rfl rfl i3.eC i4.eM
  · rw [if_neg (show ¬ ¬ nI q = nI ls.length from fun w => w (by rw [e1])), d.2.1.1, e2]
    have hs6 := d.1.1
    by_cases e6 : s = 6
    · subst e6
      obtain ⟨⟨_, hr⟩, ⟨a1, a2, a3⟩, b1, b2, b3, b4, b5, b6⟩ := d
      have hr3 := b5 (by omega)
      subst hr3
      rw [if_neg (fun q => q rfl), ob, if_pos n10, if_pos rfl, if_pos n10]
      dsimp only
      obtain ⟨x2, g1, g2, g3, g4⟩ := S_copyL_lp (n := n) (D := D) 4 0 n x1 (fun e he => ⟨(b1 e he (by omega)).1, (b2 e he (by omega)).1, (b3 e he (by omega)).1⟩) (b6 rfl).1 (fun e he => absurd he (Nat.not_lt_zero e)) (by omega) (by omega)
      have g1' : f_X3_copy n 0 1 x1 = some x2 := g1
      have hlw : lw_ok D := ⟨fun e he => ⟨(b1 e he (by omega)).2.2, (b2 e he (by omega)).2.2, (b3 e he (by omega)).2.2⟩, (b6 rfl).2.2⟩
      rw [g1', ob]
      unfold f_X4_close
      rw [ob]
      have x29 : xF x2 0 9 0 = nI lr := by rw [g3.1 _ _ _ (by omega)]; exact hx1.1.1
      rw [x29, show nI lr + (1 : Int32) = nI (lr + 1) from nI_add ..]
      have eX3 : eX (fun t k i => (t = 2 ∧ k = 3 ∧ i = 0) ∨ (t = 0 ∧ k = 9) ∨ (t = 1 ∧ k = 2) ∨ t = 7) (fun t i => (t = 9 ∨ t = 10 ∨ t = 11) ∧ i = 0) x1 (sF (sF (sF (sF x2 0 9 0 (nI (lr + 1))) 1 2 0 0) 7 2 0 0) 7 3 0 0) := ⟨fun t k i o => by rw [xF_sF, if_neg (by omega), xF_sF, if_neg (by omega), xF_sF, if_neg (by omega), xF_sF, if_neg (by omega)]; exact g3.1 _ _ _ (by omega), fun t i q o => g3.2.1 _ _ _ o, fun i o => g3.2.2 i (by omega)⟩
      have cT3 := eX3.T (t := 0) (by intro k; omega) (by intro i _ k; omega) (by intro i _; omega) hx1.2.2.1
      have cT3p := eX3.T (t := 1) (by intro k; omega) (by intro i _ k; omega) (by intro i _; omega) hx1.2.2.2.1
      have cL3 : cL (sF (sF (sF (sF x2 0 9 0 (nI (lr + 1))) 1 2 0 0) 7 2 0 0) 7 3 0 0) 0 D := ⟨g2.1, by rw [xF_sF, if_neg (by omega), xF_sF, if_neg (by omega), xF_sF, if_neg (by omega), xF_sF, if_neg (by omega)]; exact g2.2⟩
      have hw := h3.1
      obtain ⟨x4, k1, k2, k3⟩ := S_dropLT (n := n) hn hlw.2 (show w < 100000 by omega) cT3 cL3
      have t1 : f_X3_allTerms n 0 x4 = some (tSum D.1 0 4 0, x4) := S_allTerms_lp (n := n) (k3.cL cL3) 4 0 n 0 (by omega) (by omega)
      obtain ⟨z2, l1, l2, l3, l4⟩ := M_law_lp (n := n) (D := D) 4 0 n 0 z1 (fun e he => ⟨(b1 e he (by omega)).2.1, (b2 e he (by omega)).2.1, (b3 e he (by omega)).2.1⟩) (fun e he => absurd he (Nat.not_lt_zero e)) (by omega) (by omega)
      have l1' := l1
      have z21 : xF z2 32 21 0 = nI D.2.2.2 := by rw [l3]; exact (b6 rfl).2.1
      have z2a : xF z2 32 1 0 = nI lr := by rw [l3]; exact hz1.1.2.1
      rw [z21, z2a, show nI lr + (1 : Int32) = nI (lr + 1) from nI_add ..] at l1'
      have eZ : eY (fun k => k = 2 ∨ k = 0 ∨ k = 1 ∨ k = 32 ∨ k = 33 ∨ k = 16) (fun t _ => 43 ≤ t ∧ t ≤ 45) z1 (sF (sF (sF (sF (sF (sF z2 32 2 0 (nI D.2.2.2)) 32 0 0 1) 32 1 0 (nI (lr + 1))) 32 32 0 (-1)) 32 33 0 0) 32 16 0 0) := ⟨fun k o => by rw [xF_sF, if_neg (by omega), xF_sF, if_neg (by omega), xF_sF, if_neg (by omega), xF_sF, if_neg (by omega), xF_sF, if_neg (by omega), xF_sF, if_neg (by omega)]; exact l3 _ _ _, fun t q o => l4 t q o⟩
      have mT3 := eZ.T (by omega) (by omega) (by omega) hz1.2.2.1
      have mL3 : mL (sF (sF (sF (sF (sF (sF z2 32 2 0 (nI D.2.2.2)) 32 0 0 1) 32 1 0 (nI (lr + 1))) 32 32 0 (-1)) 32 33 0 0) 32 16 0 0) D := ⟨l2, by rw [xF_sF, if_neg (by omega), xF_sF, if_neg (by omega), xF_sF, if_neg (by omega), xF_sF, if_neg (by omega), xF_sF, if_neg (by omega), xF_sF, if_pos ⟨rfl, rfl, rfl⟩]⟩
      obtain ⟨z3, m1, m2, m3⟩ := M_lapseAll (n := n) hn hlw.2 (show w < 100000 by omega) mT3 mL3
      refine ⟨tSum D.1 0 4 0, x4, z3, ?_, ?_, ⟨lr + 1, g, a, D, N, w, tG (pLap D w) N T, pi, Np, wp, Tp, [], 0, [], sw, B, ?_, ?_, ?_⟩, ?_⟩
      · rw [k1, ob, t1, ob]
      · rw [m1, ob] at l1'
        exact l1'
      · have e := k3.eX
        refine ⟨⟨?_, ?_, ?_, ?_⟩, k3.cL cL3, k2, k3.cT (by omega) cT3p, ⟨?_, fun k hk => absurd hk (Nat.not_lt_zero k)⟩, ⟨?_, ?_, fun k hk => absurd hk (Nat.not_lt_zero k)⟩, fun q => absurd q (by omega)⟩
        · rw [e.1 _ _ _ (by omega), xF_sF, if_neg (by omega), xF_sF, if_neg (by omega), xF_sF, if_neg (by omega), xF_sF, if_pos ⟨rfl, rfl, rfl⟩]
        · rw [e.1 _ _ _ (by omega), eX3.1 _ _ _ (by omega)]; exact hx1.1.2.1
        · rw [e.1 _ _ _ (by omega), eX3.1 _ _ _ (by omega)]; exact hx1.1.2.2.1
        · rw [e.1 _ _ _ (by omega), eX3.1 _ _ _ (by omega)]; exact hx1.1.2.2.2
        · rw [e.1 _ _ _ (by omega), xF_sF, if_neg (by omega), xF_sF, if_neg (by omega), xF_sF, if_pos ⟨rfl, rfl, rfl⟩]; rfl
        · rw [e.1 _ _ _ (by omega), xF_sF, if_neg (by omega), xF_sF, if_pos ⟨rfl, rfl, rfl⟩]; rfl
        · rw [e.1 _ _ _ (by omega), xF_sF, if_pos ⟨rfl, rfl, rfl⟩]; rfl
      · have e := m3.eY
        refine ⟨⟨?_, ?_, ?_, ?_, ?_⟩, m3.mL mL3, m2, e.I (by unfold tF; omega) (by intro t q _ _; unfold tA; omega) (eZ.I (by omega) (by omega) hz1.2.2.2.1), ⟨?_, fun k hk => absurd hk (Nat.not_lt_zero k)⟩, ⟨?_, ?_, fun k hk => absurd hk (Nat.not_lt_zero k)⟩, fun q => absurd q (by omega)⟩
        · rw [m3.1 _ _ _ (by omega), xF_sF, if_neg (by omega), xF_sF, if_neg (by omega), xF_sF, if_neg (by omega), xF_sF, if_neg (by omega), xF_sF, if_pos ⟨rfl, rfl, rfl⟩, if_neg (by omega)]; rfl
        · rw [m3.1 _ _ _ (by omega), xF_sF, if_neg (by omega), xF_sF, if_neg (by omega), xF_sF, if_neg (by omega), xF_sF, if_pos ⟨rfl, rfl, rfl⟩]
        · rw [m3.1 _ _ _ (by omega), eZ.1 _ (by omega)]; exact hz1.1.2.2.1
        · rw [m3.1 _ _ _ (by omega), eZ.1 _ (by omega)]; exact hz1.1.2.2.2.1
        · rw [m3.1 _ _ _ (by omega), eZ.1 _ (by omega)]; exact hz1.1.2.2.2.2
        · rw [m3.1 _ _ _ (by omega), xF_sF, if_pos ⟨rfl, rfl, rfl⟩]; rfl
        · rw [if_neg (by omega), m3.1 _ _ _ (by omega), xF_sF, if_neg (by omega), xF_sF, if_neg (by omega), xF_sF, if_pos ⟨rfl, rfl, rfl⟩]
        · rw [m3.1 _ _ _ (by omega), xF_sF, if_neg (by omega), xF_sF, if_pos ⟨rfl, rfl, rfl⟩]; rfl
      · obtain ⟨j1, j2, j3, j4, j5, j6, j7, j8, j9, j10, j11⟩ := h3
        refine ⟨⟨by omega, by omega, by omega, by omega, by omega⟩, ⟨j2.1, j2.2.1, j2.2.2.1, Nat.zero_le _⟩, j3, fun q => absurd q (by omega), Or.inr hlw, ⟨hlw.2, fun q => absurd q (by omega)⟩, ⟨Nat.zero_le _, fun c hc => absurd hc List.not_mem_nil⟩, ⟨Nat.zero_le _, fun v hv => absurd hv List.not_mem_nil, fun _ => rfl⟩, fun q => absurd q (by omega), fun i hi => ?_, fun i hi => ?_⟩
        · unfold tG
          rw [if_pos hi, lap_iff]
          intro c hc
          unfold pLap cr_lap at hc
          have := (List.mem_filter.mp hc).2
          rw [decide_eq_true_eq] at this
          exact this
        · rw [← j11 i hi]
          unfold tG
          split <;> rfl
      · have kk : ∀ i, xK (sF (sF (sF (sF x2 0 9 0 (nI (lr + 1))) 1 2 0 0) 7 2 0 0) 7 3 0 0) i < 5 := fun i => by
          have e1 : xK x2 i = xK x1 i := congrFun (congrArg Prod.fst g4) i
          have e2 : xK x1 i = xK x i := congrFun (congrArg Prod.fst i3.2.2) i
          show xK x2 i < 5
          rw [e1, e2]; exact hk i
        exact fT_K k3 k2 kk
    · rw [if_pos (show ¬ nI s = (6 : Int32) from fun q => e6 ((nI_eq (b := 6) (by omega) (by omega)).mp q)), ob, if_neg (fun q => q rfl), if_neg e6, if_neg (fun q => q rfl)]
      exact Ok.same (v := -103) h0 hk ht rfl rfl i3.eC i4.eM
end O13
