/-! CALLS, one by one (4) -/
section O4
variable {n tm : Nat} {x z : am_X}
theorem O_week (hn : 100 ≤ n) (ht : tm < 1000) (hk : ∀ i, xK x i < 5) (h : Rel tm x z) : Ok tm (f_X8_week n 0 x) (f_X9_week n 0 z) := by
  obtain ⟨lr, g, a, l, N, w, T, pi, Np, wp, Tp, ls, bg, tl, sw, B, h1, h2, h3⟩ := h
  have hc := h1.2.2.1
  have hm := h2.2.2.1
  obtain ⟨i1, i2, i3, i4, i5, i6, i7, i8, i9, i10, i11⟩ := h3
  obtain ⟨x1, g1, g2, g3⟩ := S_passWeek (n := n) hn i6.1 (show w < 99999 by omega) hc h1.2.1
  obtain ⟨z1, k1, k2, k3⟩ := M_goWeek (n := n) hn i6.1 (show w < 99999 by omega) hm h2.2.1
  unfold f_X8_week f_X9_week
  rw [g1, ob, k1, ob, g2.2.2.1, k2.2.2.1]
  refine ⟨_, _, _, rfl, rfl, ⟨lr, g, a, l, N, w + 1, _, pi, Np, wp, Tp, ls, bg, tl, sw, B, RC_town h1 g3 g2, RM_town h2 k3.eY k2, ⟨⟨by omega, by omega, by omega, by omega, by omega⟩, i2, i3, i4, i5, i6, i7, i8, i9, fun i hi => ?_, fun i hi => ?_⟩⟩, fT_K g3 g2 hk⟩
  · unfold tG
    rw [if_pos hi]
    show cr_lap _ (cr_lap _ _) = cr_lap _ _
    rw [lap_iff]
    intro c hc
    unfold cr_lap at hc
    have := (List.mem_filter.mp hc).2
    rw [decide_eq_true_eq] at this
    exact this
  · unfold tG
    rw [if_pos (by omega)]
    exact i11 i hi
theorem O_amnesty (hn : 100 ≤ n) (ht : tm < 1000) (hk : ∀ i, xK x i < 5) (h : Rel tm x z) : Ok tm (f_X8_amnesty n 0 x) (f_X9_amnesty n 0 z) := by
  obtain ⟨lr, g, a, l, N, w, T, pi, Np, wp, Tp, ls, bg, tl, sw, B, h1, h2, h3⟩ := h
  have hc := h1.2.2.1
  have hm := h2.2.2.1
  have h4 := hm.1
  obtain ⟨i1, i2, i3, i4, i5, i6, i7, i8, i9, i10, i11⟩ := h3
  obtain ⟨x1, g1, g2, g3⟩ := S_forgive (n := n) hn hc
  have lp : ∀ (v : Int32) (m j k : Nat) (z : am_X), mT z N w (tG (fun P => (pK P, (pG P, (0, (pA P, (pZ P, pC P)))))) j T) → j + m = N → m < k → ∃ z', b_X9_amnesty_7 n k 0 v (nI j) z = some (v, z') ∧ mT z' N w (tG (fun P => (pK P, (pG P, (0, (pA P, (pZ P, pC P)))))) N T) ∧ fN z z' := by
    intro v m
    induction m with
    | zero =>
      intro j k z h hj hk
      obtain ⟨k, rfl⟩ : ∃ e, k = e + 1 := ⟨k - 1, by omega⟩
      rw [b_X9_amnesty_7, h.2.1, if_pos (nI_le (by omega) (by omega))]
      have e : j = N := by omega
      subst e
      exact ⟨z, rfl, h, fN.rf⟩
    | succ m ih =>
      intro j k z h hj hk
      obtain ⟨k, rfl⟩ : ∃ e, k = e + 1 := ⟨k - 1, by omega⟩
      rw [b_X9_amnesty_7, h.2.1, if_neg (nI_ge (by omega) (by omega)), if_pos (am_inB_nI (by omega) (by omega)), nI_c (by omega), li1, nI_add]
      have hc := h.2.2.2 j (by omega)
      have e : ∀ (t i q : Nat), t ≠ 50 → xA (sA z 50 0 j (0 : Int32)) t i q = xA z t i q := fun t i q hne => by rw [xA_sA, if_neg (fun w => hne w.1)]
      have hP2 : mP (sA z 50 0 j (0 : Int32)) j ((fun P : PS => ((pK P, (pG P, (0, (pA P, (pZ P, pC P))))) : PS)) (tG (fun P => (pK P, (pG P, (0, (pA P, (pZ P, pC P)))))) j T j)) := ⟨⟨hc.1.1, Nat.zero_le _, by rw [e _ _ _ (by omega)]; exact hc.1.2.2.1, by rw [e _ _ _ (by omega)]; exact hc.1.2.2.2.1, by rw [xA_sA, if_pos ⟨rfl, rfl, rfl⟩]; rfl, by rw [e _ _ _ (by omega)]; exact hc.1.2.2.2.2.2.1, hc.1.2.2.2.2.2.2.1, hc.1.2.2.2.2.2.2.2.1, fun k hk => by rw [e _ _ _ (by omega)]; exact hc.1.2.2.2.2.2.2.2.2 k hk⟩, hc.2.1, hc.2.2.1, by rw [e _ _ _ (by omega)]; exact hc.2.2.2.1, by rw [e _ _ _ (by omega)]; exact hc.2.2.2.2⟩
      obtain ⟨z2, k1, k2, k3⟩ := ih (j + 1) k _ ((h.set fQ.p50 hP2).eq (fun i _ => tG_succ _ _ _ _)) (by omega) (by omega)
      exact ⟨z2, k1, k2, ((fQ.p50 (p := j)).fN (by omega)).tr k3⟩
  obtain ⟨z1, k1, k2, k3⟩ := lp (tS (fun i => nI (pO (T i))) N) N 0 n z (hm.eq (fun i _ => tG_0 _ _ _)) (by omega) (by omega)
  unfold f_X8_amnesty f_X9_amnesty
  rw [g1, ob, M_owesAll hn hm, ob]
  refine ⟨_, _, z1, rfl, k1, Rel.up ⟨lr, g, a, l, N, w, _, pi, Np, wp, Tp, ls, bg, tl, sw, B, RC_town h1 g3 g2, RM_town h2 k3.eY k2, ⟨i1, i2, i3, i4, i5, i6, i7, i8, i9, fun i hi => ?_, fun i hi => ?_⟩⟩ ht, fT_K g3 g2 hk⟩
  · unfold tG
    rw [if_pos hi]
    exact i10 i hi
  · unfold tG
    rw [if_pos (by omega)]
    exact i11 i hi
theorem O_count (hn : 100 ≤ n) (ht : tm < 1000) (hk : ∀ i, xK x i < 5) (h : Rel tm x z) (v : Int32) : Ok tm (f_X8_count n 0 v x) (f_X9_count n 0 v z) := by
  have h0 := h
  obtain ⟨lr, g, a, l, N, w, T, pi, Np, wp, Tp, ls, bg, tl, sw, B, h1, h2, h3⟩ := h
  obtain ⟨⟨c1, c2, c3, c4⟩, c5, c6, c7, ⟨c8, c9⟩, ⟨c10, c11, c12⟩, c13⟩ := h1
  obtain ⟨⟨m1, m2, m3, m4, m5⟩, m6, m7, ⟨m8, m9, m10⟩, ⟨m11, m12⟩, ⟨m13, m14, m15⟩, m16⟩ := h2
  unfold f_X8_count f_X9_count f_X9_howMany
  rw [S_allGone hn c6, S_allOwed hn c6, S_allGot hn c6, S_allCredits hn c6, M_goneMany hn m7, M_owesAll hn m7, M_gotAll hn m7, M_creditsAll hn m7, c1, c2, c3, c5.2, c6.2.1, c6.2.2.1, c8, c11, m2, m3, m4, m6.2, m7.2.1, m7.2.2.1, m11, m14]
  by_cases e0 : v = (0 : Int32)
  · rw [if_pos e0, if_pos e0]; exact Ok.same0 h0 hk ht rfl rfl
  rw [if_neg e0, if_neg e0]
  by_cases e0 : v = (1 : Int32)
  · rw [if_pos e0, if_pos e0]; exact Ok.same0 h0 hk ht rfl rfl
  rw [if_neg e0, if_neg e0]
  by_cases e0 : v = (2 : Int32)
  · rw [if_pos e0, if_pos e0]; exact Ok.same0 h0 hk ht rfl rfl
  rw [if_neg e0, if_neg e0]
  by_cases e0 : v = (3 : Int32)
  · rw [if_pos e0, if_pos e0]; exact Ok.same0 h0 hk ht rfl rfl
  rw [if_neg e0, if_neg e0]
  by_cases e0 : v = (4 : Int32)
  · rw [if_pos e0, if_pos e0]; exact Ok.same0 h0 hk ht rfl rfl
  rw [if_neg e0, if_neg e0]
  by_cases e0 : v = (5 : Int32)
  · rw [if_pos e0, if_pos e0]; exact Ok.same0 h0 hk ht rfl rfl
  rw [if_neg e0, if_neg e0]
  by_cases e0 : v = (6 : Int32)
  · rw [if_pos e0, if_pos e0]; exact Ok.same0 h0 hk ht rfl rfl
  rw [if_neg e0, if_neg e0]
  by_cases e0 : v = (7 : Int32)
  · rw [if_pos e0, if_pos e0]; exact Ok.same0 h0 hk ht rfl rfl
  rw [if_neg e0, if_neg e0]
  by_cases e0 : v = (8 : Int32)
  · rw [if_pos e0, if_pos e0]; exact Ok.same0 h0 hk ht rfl rfl
  rw [if_neg e0, if_neg e0]
  by_cases e0 : v = (9 : Int32)
  · rw [if_pos e0, if_pos e0]; exact Ok.same0 h0 hk ht rfl rfl
  rw [if_neg e0, if_neg e0]
  by_cases e0 : v = (10 : Int32)
  · rw [if_pos e0, if_pos e0]; exact Ok.same0 h0 hk ht rfl rfl
  rw [if_neg e0, if_neg e0]
  by_cases e0 : v = (11 : Int32)
  · rw [if_pos e0, if_pos e0]; exact Ok.same0 h0 hk ht rfl rfl
  rw [if_neg e0, if_neg e0]
  exact Ok.same0 h0 hk ht rfl rfl
theorem S_isDeedB (v : Int32) : f_X8_isDeed n v x = some ((if rg 0 3 v = true then 1 else 0), x) := by
  unfold f_X8_isDeed
  rw [show (4 : Int32) = nI (3 + 1) from rfl, rg_ge v 3 (by omega)]
  split <;> rfl
theorem M_isDeedB (v : Int32) : f_X9_isDeed n v z = some ((if rg 0 3 v = true then 1 else 0), z) := by
  unfold f_X9_isDeed
  rw [show f_X9_within n v (0 : Int32) (3 : Int32) z = _ from W_0 (b := 3) z v (by omega), ob, if_pos (bz_if _)]
theorem M_deedNow {d k : Nat} {l : LW} (hL : mL z l) (hd : d < 4) (hk : k < 3) : f_X9_deedNow n 0 (nI d) (nI k) z = some ((if k = 0 then nI (l.1 d) else if k = 1 then nI (l.2.1 d) else nI (l.2.2.1 d)), z) := by
  have hin : am_inB (nI d) 4 = true := am_inB_nI hd (by omega)
  unfold f_X9_deedNow
  rw [if_pos hin, if_pos hin, if_pos hin, nI_c (by omega), (hL.1 d hd).1, (hL.1 d hd).2.1, (hL.1 d hd).2.2]
  rcases (show k = 0 ∨ k = 1 ∨ k = 2 by omega) with rfl | rfl | rfl <;> rfl
theorem O_deed (ht : tm < 1000) (hk : ∀ i, xK x i < 5) (h : Rel tm x z) (v w' : Int32) : Ok tm (f_X8_deed n 0 v w' x) (f_X9_deed n 0 v w' z) := by
  have h0 := h
  obtain ⟨lr, g, a, l, N, w, T, pi, Np, wp, Tp, ls, bg, tl, sw, B, h1, h2, h3⟩ := h
  have hlr := h1.1.1
  have hlm := h2.1.1
  have htm := h3.1
  unfold f_X8_deed f_X9_deed
  rw [S_isDeedB, ob, M_isDeedB, ob]
  cases hb : rg 0 3 v with
  | false => exact Ok.same0 (v := -101) h0 hk ht rfl rfl
  | true =>
    obtain ⟨d, d1, d2, rfl⟩ := rg_of (by omega) hb
    rw [if_pos rfl, if_pos n10, if_pos n10, show f_X9_within n w' (0 : Int32) (2 : Int32) z = _ from W_0 (b := 2) z w' (by omega), ob, show (3 : Int32) = nI (2 + 1) from rfl, rg_lt w' 2 (by omega)]
    cases hr : rg 0 2 w' with
    | false => exact Ok.same0 (v := -102) h0 hk ht rfl rfl
    | true =>
      obtain ⟨c, c1, c2, rfl⟩ := rg_of (by omega) hr
      rw [if_pos rfl, if_pos rfl, if_pos n10, hlr, hlm]
      by_cases e : lr = 0
      · refine Ok.same0 (v := -103) h0 hk ht ?_ ?_
        · rw [if_neg (fun w => w ((z0 (by omega)).mpr e))]
        · rw [if_pos e, if_pos (show nI 0 = 0 from rfl)]
      · refine Ok.same0 (v := if c = 0 then nI (l.1 d) else if c = 1 then nI (l.2.1 d) else nI (l.2.2.1 d)) h0 hk ht ?_ ?_
        · rw [if_pos (fun w => e ((z0 (by omega)).mp w)), S_termOf h1.2.1 (by omega), S_worthOf h1.2.1 (by omega), S_sortsOf h1.2.1 (by omega)]
          rcases (show c = 0 ∨ c = 1 ∨ c = 2 by omega) with rfl | rfl | rfl <;> rfl
        · rw [if_neg e, if_neg (by decide), M_deedNow h2.2.1 (by omega) (by omega), ob]
theorem O_person (ht : tm < 1000) (hk : ∀ i, xK x i < 5) (h : Rel tm x z) (v : Int32) : Ok tm (f_X8_person n 0 v x) (f_X9_person n 0 v z) := by
  have h0 := h
  obtain ⟨lr, g, a, l, N, w, T, pi, Np, wp, Tp, ls, bg, tl, sw, B, h1, h2, h3⟩ := h
  have hlr := h1.1.1
  have hlm := h2.1.1
  have hc := h1.2.2.1
  have hm := h2.2.2.1
  have h4 := hc.1
  obtain ⟨i1, i2, i3, i4, i5, i6, i7, i8, i9, i10, i11⟩ := h3
  unfold f_X8_person f_X9_person
  rw [S_isNumber, ob, show f_X9_within n v (0 : Int32) (4 : Int32) z = _ from W_0 (b := 4) z v (by omega), ob]
  cases hb : rg 0 4 v with
  | false => exact Ok.same0 (v := -102) h0 hk ht rfl rfl
  | true =>
    obtain ⟨d, d1, d2, rfl⟩ := rg_of (by omega) hb
    rw [if_pos rfl, if_pos n10, if_pos n10, hlr, hlm]
    by_cases e : lr = 0
    · refine Ok.same0 (v := -103) h0 hk ht ?_ ?_
      · rw [if_neg (fun w => w ((z0 (by omega)).mpr e))]
      · rw [if_pos e, if_neg (fun w => w rfl)]
    · rw [if_pos (fun w => e ((z0 (by omega)).mp w)), if_neg e, if_pos (show ¬ nI 1 = 0 from n10)]
      unfold f_X7_hasRoom
      rw [hc.2.1, hm.2.1]
      by_cases e4 : N < 4
      · rw [if_neg (show ¬ (4 : Int32) ≤ nI N from nI_ge (b := 4) e4 (by omega)), ob, if_pos n10, S_numbered (by omega), ob]
        rw [if_pos (show ¬ nI N = 4 from fun w => by have := (nI_eq (b := 4) (by omega) (by omega)).mp w; omega)]
        have hin : am_inB (nI N) 5 = true := am_inB_nI (by omega) (by omega)
        rw [if_pos hin, if_pos hin, if_pos hin, if_pos hin, if_pos hin, if_pos hin, nI_c (by omega)]
        unfold f_X7_welcome
        rw [hc.2.1, S_one e4, ob]
        obtain ⟨x1, g1, g2, g3⟩ := S_begin (n := n) (i := 4 * 0 + N) (k := d) (x := x) (by omega)
        rw [g1, ob, ob]
        have hN1 : xF x1 3 1 0 = nI N := by rw [g3.1 _ _ _ (fun e => by omega)]; exact hc.2.1
        rw [hN1, li1, nI_add, xF_sF, if_pos ⟨rfl, rfl, rfl⟩, nI_subi (by omega), show N + 1 - 1 = N from by omega]
        have hcT := hc.set e4 g3 g2
        have hc2 : cT (sF x1 3 1 0 (nI (N + 1))) 0 (N + 1) w (fun j => if j = N then (d, (0, (0, (0, (0, []))))) else T j) := by
          refine ⟨by omega, by rw [xF_sF, if_pos ⟨rfl, rfl, rfl⟩], by rw [xF_sF, if_neg (by omega)]; exact hcT.2.2.1, fun i hi => ?_⟩
          have hP := hcT.2.2.2 i hi
          have e' : ∀ (t2 k2 j2 : Nat), t2 ≠ 3 → xF (sF x1 3 1 0 (nI (N + 1))) t2 k2 j2 = xF x1 t2 k2 j2 := fun t2 k2 j2 hne => by rw [xF_sF, if_neg (fun z => hne z.1)]
          exact ⟨hP.1, hP.2.1, by rw [e' _ _ _ (by decide)]; exact hP.2.2.1, by rw [e' _ _ _ (by decide)]; exact hP.2.2.2.1, by rw [e' _ _ _ (by decide)]; exact hP.2.2.2.2.1, by rw [e' _ _ _ (by decide)]; exact hP.2.2.2.2.2.1, by rw [e' _ _ _ (by decide)]; exact hP.2.2.2.2.2.2.1, hP.2.2.2.2.2.2.2⟩
        have hfT : fT 0 x (sF x1 3 1 0 (nI (N + 1))) := (g3.fT e4).tr fT.put
        refine ⟨nI N, _, _, rfl, rfl, Rel.up ⟨lr, g, a, l, N + 1, w, _, pi, Np, wp, Tp, ls, bg, tl, sw, B, RC_town h1 hfT hc2, RM_town (N' := N + 1) (w' := w) (T' := fun j => if j = N then (d, (0, (0, (0, (0, []))))) else T j) h2 ⟨fun k o => ?_, fun t q o => ?_⟩ ⟨by omega, ?_, ?_, fun p hp => ?_⟩, ⟨i1, i2, ⟨by omega, by omega, i3.2.2⟩, fun z => absurd z e, i5, i6, i7, i8, i9, fun i hi => ?_, fun i hi => ?_⟩⟩ ht, fT_K hfT hc2 hk⟩
        · rw [xF_sF, if_neg (fun w => o (Or.inr w.2.1))]
          rfl
        · have hne : ∀ tt, 48 ≤ tt → tt ≤ 53 → ¬ (t = tt ∧ (0 : Nat) = 0 ∧ q = N) := fun tt a1 a2 w => o (Or.inl (by omega))
          rw [xA_sF, xA_sA, if_neg (hne 53 (by omega) (by omega)), xA_sA, if_neg (hne 52 (by omega) (by omega)), xA_sA, if_neg (hne 51 (by omega) (by omega)), xA_sA, if_neg (hne 50 (by omega) (by omega)), xA_sA, if_neg (hne 49 (by omega) (by omega)), xA_sA, if_neg (hne 48 (by omega) (by omega))]
        · rw [xF_sF, if_pos ⟨rfl, rfl, rfl⟩]
        · rw [xF_sF, if_neg (by omega)]
          exact hm.2.2.1
        · by_cases ep : p = N
          · dsimp only
            rw [if_pos ep, ep]
            refine ⟨⟨by show d < 5; omega, Nat.zero_le _, ?_, ?_, ?_, ?_, Nat.zero_le 12, (fun c hc => absurd hc List.not_mem_nil), fun k hk => absurd hk (Nat.not_lt_zero k)⟩, Nat.zero_le _, Nat.zero_le _, ?_, ?_⟩
            · rw [xA_sF, xA_sA, if_neg (by omega), xA_sA, if_neg (by omega), xA_sA, if_neg (by omega), xA_sA, if_neg (by omega), xA_sA, if_neg (by omega), xA_sA, if_pos ⟨rfl, rfl, rfl⟩]
            · rw [xA_sF, xA_sA, if_neg (by omega), xA_sA, if_neg (by omega), xA_sA, if_neg (by omega), xA_sA, if_neg (by omega), xA_sA, if_pos ⟨rfl, rfl, rfl⟩]
            · rw [xA_sF, xA_sA, if_neg (by omega), xA_sA, if_neg (by omega), xA_sA, if_neg (by omega), xA_sA, if_pos ⟨rfl, rfl, rfl⟩]
              rfl
            · rw [xA_sF, xA_sA, if_pos ⟨rfl, rfl, rfl⟩]
              rfl
            · rw [xA_sF, xA_sA, if_neg (by omega), xA_sA, if_neg (by omega), xA_sA, if_pos ⟨rfl, rfl, rfl⟩]
              rfl
            · rw [xA_sF, xA_sA, if_neg (by omega), xA_sA, if_pos ⟨rfl, rfl, rfl⟩]
              rfl
          · dsimp only
            rw [if_neg ep]
            have hP := hm.2.2.2 p (by omega)
            have e' : ∀ (t q : Nat), ¬ ((48 ≤ t ∧ t ≤ 53) ∧ q = N) → xA (sF (sA (sA (sA (sA (sA (sA z 48 0 N (nI d)) 49 0 N (0 : Int32)) 50 0 N (0 : Int32)) 51 0 N (0 : Int32)) 52 0 N (0 : Int32)) 53 0 N (0 : Int32)) 32 7 0 (nI (N + 1))) t 0 q = xA z t 0 q := fun t q o => by
              rw [xA_sF, xA_sA, if_neg (by omega), xA_sA, if_neg (by omega), xA_sA, if_neg (by omega), xA_sA, if_neg (by omega), xA_sA, if_neg (by omega), xA_sA, if_neg (by omega)]
            exact ⟨⟨hP.1.1, hP.1.2.1, (e' _ _ (by omega)).trans hP.1.2.2.1, (e' _ _ (by omega)).trans hP.1.2.2.2.1, (e' _ _ (by omega)).trans hP.1.2.2.2.2.1, (e' _ _ (by omega)).trans hP.1.2.2.2.2.2.1, hP.1.2.2.2.2.2.2.1, hP.1.2.2.2.2.2.2.2.1, fun k hk => (e' _ _ (by omega)).trans (hP.1.2.2.2.2.2.2.2.2 k hk)⟩, hP.2.1, hP.2.2.1, (e' _ _ (by omega)).trans hP.2.2.2.1, (e' _ _ (by omega)).trans hP.2.2.2.2⟩
        · dsimp only
          by_cases ei : i = N
          · rw [if_pos ei]; rfl
          · rw [if_neg ei]; exact i10 i (by omega)
        · dsimp only
          rw [if_neg (by omega)]
          exact i11 i hi
      · rw [if_pos (show (4 : Int32) ≤ nI N from nI_le (a := 4) (by omega) (by omega)), ob]
        refine Ok.same0 (v := -104) h0 hk ht ?_ ?_
        · rw [if_neg (fun w => w rfl)]
        · rw [if_neg (fun w => w (by rw [show N = 4 from by omega]; rfl))]
end O4
