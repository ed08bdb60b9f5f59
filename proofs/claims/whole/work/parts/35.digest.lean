/-! digest -/
section O11
variable {n tm : Nat} {lr g a : Nat} {l : LW} {N w : Nat} {T : Nat → PS} {pi Np wp : Nat} {Tp : Nat → PS} {ls : List Nat} {bg : Nat} {tl : List Nat} {sw : Nat} {B : PS}
theorem J_count {x z : am_X} (hn : 100 ≤ n) (h1 : RC x lr g a l N w T pi Np wp Tp ls bg tl sw B) (h2 : RM z lr g a l N w T pi Np wp Tp ls bg tl sw B) (v : Int32) : ∃ c, f_X8_count n 0 v x = some (c, x) ∧ f_X9_howMany n 0 v z = some (c, z) := by
  obtain ⟨⟨c1, c2, c3, c4⟩, c5, c6, c7, ⟨c8, c9⟩, ⟨c10, c11, c12⟩, c13⟩ := h1
  obtain ⟨⟨m1, m2, m3, m4, m5⟩, m6, m7, ⟨m8, m9, m10⟩, ⟨m11, m12⟩, ⟨m13, m14, m15⟩, m16⟩ := h2
  unfold f_X8_count f_X9_howMany
  rw [S_allGone hn c6, S_allOwed hn c6, S_allGot hn c6, S_allCredits hn c6, M_goneMany hn m7, M_owesAll hn m7, M_gotAll hn m7, M_creditsAll hn m7, c1, c2, c3, c5.2, c6.2.1, c6.2.2.1, c8, c11, m2, m3, m4, m6.2, m7.2.1, m7.2.2.1, m11, m14]
  by_cases e0 : v = (0 : Int32)
  · rw [if_pos e0, if_pos e0]; exact ⟨_, rfl, rfl⟩
  rw [if_neg e0, if_neg e0]
  by_cases e0 : v = (1 : Int32)
  · rw [if_pos e0, if_pos e0]; exact ⟨_, rfl, rfl⟩
  rw [if_neg e0, if_neg e0]
  by_cases e0 : v = (2 : Int32)
  · rw [if_pos e0, if_pos e0]; exact ⟨_, rfl, rfl⟩
  rw [if_neg e0, if_neg e0]
  by_cases e0 : v = (3 : Int32)
  · rw [if_pos e0, if_pos e0]; exact ⟨_, rfl, rfl⟩
  rw [if_neg e0, if_neg e0]
  by_cases e0 : v = (4 : Int32)
  · rw [if_pos e0, if_pos e0]; exact ⟨_, rfl, rfl⟩
  rw [if_neg e0, if_neg e0]
  by_cases e0 : v = (5 : Int32)
  · rw [if_pos e0, if_pos e0]; exact ⟨_, rfl, rfl⟩
  rw [if_neg e0, if_neg e0]
  by_cases e0 : v = (6 : Int32)
  · rw [if_pos e0, if_pos e0]; exact ⟨_, rfl, rfl⟩
  rw [if_neg e0, if_neg e0]
  by_cases e0 : v = (7 : Int32)
  · rw [if_pos e0, if_pos e0]; exact ⟨_, rfl, rfl⟩
  rw [if_neg e0, if_neg e0]
  by_cases e0 : v = (8 : Int32)
  · rw [if_pos e0, if_pos e0]; exact ⟨_, rfl, rfl⟩
  rw [if_neg e0, if_neg e0]
  by_cases e0 : v = (9 : Int32)
  · rw [if_pos e0, if_pos e0]; exact ⟨_, rfl, rfl⟩
  rw [if_neg e0, if_neg e0]
  by_cases e0 : v = (10 : Int32)
  · rw [if_pos e0, if_pos e0]; exact ⟨_, rfl, rfl⟩
  rw [if_neg e0, if_neg e0]
  by_cases e0 : v = (11 : Int32)
  · rw [if_pos e0, if_pos e0]; exact ⟨_, rfl, rfl⟩
  rw [if_neg e0, if_neg e0]
  exact ⟨_, rfl, rfl⟩
theorem eM_sL {z : am_X} {v : Int64} : eM z (sL z 60 v) := ⟨fun _ _ => rfl, fun _ _ _ => rfl⟩
theorem J_mix {z : am_X} {v : Int64} : f_X9_mix n 0 v z = some (sL z 60 ((31 : Int64) * xL z 60 + v)) := rfl
theorem xL_60 {z : am_X} {v : Int64} : xL (sL z 60 v) 60 = v := by rw [xL_sL, if_pos rfl]
theorem J_deed {x : am_X} {d k : Nat} (h1 : RC x lr g a l N w T pi Np wp Tp ls bg tl sw B) (hlr : lr ≠ 0) (hr1 : lr ≤ 1000) (hd : d < 4) (hk : k < 3) : f_X8_deed n 0 (nI d) (nI k) x = some ((if k = 0 then nI (l.1 d) else if k = 1 then nI (l.2.1 d) else nI (l.2.2.1 d)), x) := by
  unfold f_X8_deed
  rw [S_isDeed x hd, ob, if_pos n10, show (3 : Int32) = nI (2 + 1) from rfl, rg_lt _ 2 (by omega), show rg 0 2 (nI k) = true from by unfold rg; rw [nI_toInt (by omega), Bool.and_eq_true, decide_eq_true_eq, decide_eq_true_eq]; omega, if_pos rfl, h1.1.1, if_pos (fun e => hlr ((z0 (by omega)).mp e))]
  rcases (show k = 0 ∨ k = 1 ∨ k = 2 by omega) with e | e | e <;> subst e
  · rw [if_neg (fun q => q rfl), S_termOf h1.2.1 hd, ob, if_pos rfl]
  · rw [if_pos (show ¬ nI 1 = 0 from n10), if_neg (fun q => q rfl), S_worthOf h1.2.1 hd, ob]; rfl
  · rw [if_pos (show ¬ nI 2 = 0 from by decide), if_pos (show ¬ nI 2 = 1 from by decide), S_sortsOf h1.2.1 hd, ob]; rfl
/-- the DEEDS' part -/
theorem D_deed1 {x : am_X} {d : Nat} (hn : 100 ≤ n) (h1 : RC x lr g a l N w T pi Np wp Tp ls bg tl sw B) (h3 : RI tm lr g a l N w T pi Np wp Tp ls bg tl sw B) (hlr : lr ≠ 0) (hd : d < 4) : ∀ (m v k k' : Nat) (h : Int64) (z : am_X), v + m = 3 → m < k → m < k' → RM z lr g a l N w T pi Np wp Tp ls bg tl sw B → xL z 60 = h → ∃ h' z', b_X8_withDeed_6 n k 0 (nI d) h (nI v) x = some (h', x) ∧ (∀ h9, b_X9_digest_23 n h9 k' 0 (nI d) (nI v) z = h9 0 (nI (d + 1)) z') ∧ RM z' lr g a l N w T pi Np wp Tp ls bg tl sw B ∧ xL z' 60 = h' := by
  intro m
  induction m with
  | zero =>
    intro v k k' h z hv hk hk' h2 hz
    obtain ⟨k, rfl⟩ : ∃ e, k = e + 1 := ⟨k - 1, by omega⟩
    obtain ⟨k', rfl⟩ : ∃ e, k' = e + 1 := ⟨k' - 1, by omega⟩
    have e3 : (3 : Int32) ≤ nI v := nI_le (a := 3) (by omega) (by omega)
    obtain ⟨c, z1, i1, i2, i3⟩ := J_kept (n := n) (d := d) hn h1 h2 h3 hd hlr
    refine ⟨(31 : Int64) * h + Int32.toInt64 c, sL z1 60 ((31 : Int64) * h + Int32.toInt64 c), ?_, fun h9 => ?_, eM_sL.RM (i3.eM.RM h2), xL_60⟩
    · rw [b_X8_withDeed_6, if_pos e3, i1, ob]
    · rw [b_X9_digest_23, if_pos e3, i2, ob, J_mix, ob, show nI d + (1 : Int32) = nI (d + 1) from nI_add ..]
      dsimp only
      rw [show xL z1 60 = h from by rw [← hz]; exact congrFun (congrArg Prod.snd i3.2.2) 60]
  | succ m ih =>
    intro v k k' h z hv hk hk' h2 hz
    obtain ⟨k, rfl⟩ : ∃ e, k = e + 1 := ⟨k - 1, by omega⟩
    obtain ⟨k', rfl⟩ : ∃ e, k' = e + 1 := ⟨k' - 1, by omega⟩
    have e3 : ¬ (3 : Int32) ≤ nI v := nI_ge (b := 3) (by omega) (by omega)
    obtain ⟨h', z', i1, i2, i3, i4⟩ := ih (v + 1) k k' ((31 : Int64) * h + Int32.toInt64 (if v = 0 then nI (l.1 d) else if v = 1 then nI (l.2.1 d) else nI (l.2.2.1 d))) (sL z 60 ((31 : Int64) * h + Int32.toInt64 (if v = 0 then nI (l.1 d) else if v = 1 then nI (l.2.1 d) else nI (l.2.2.1 d)))) (by omega) (by omega) (by omega) (eM_sL.RM h2) xL_60
    refine ⟨h', z', ?_, fun h9 => ?_, i3, i4⟩
    · rw [b_X8_withDeed_6, if_neg e3, J_deed h1 hlr (by have := h3.1; omega) hd (by omega), ob, show nI v + (1 : Int32) = nI (v + 1) from nI_add ..]
      exact i1
    · rw [b_X9_digest_23, if_neg e3, M_deedNow h2.2.1 hd (by omega), ob, J_mix, ob, show nI v + (1 : Int32) = nI (v + 1) from nI_add .., hz]
      exact i2 h9
theorem D_deed {x : am_X} (hn : 100 ≤ n) (h1 : RC x lr g a l N w T pi Np wp Tp ls bg tl sw B) (h3 : RI tm lr g a l N w T pi Np wp Tp ls bg tl sw B) : ∀ (m d k k' : Nat) (h : Int64) (z : am_X), d + m = 4 → m < k → m < k' → RM z lr g a l N w T pi Np wp Tp ls bg tl sw B → xL z 60 = h → ∃ h' z', b_X8_digest_6 n k 0 h (nI d) x = b_X8_digest_31 n 0 h' x ∧ b_X9_digest_9 n k' 0 (nI d) z = b_X9_digest_61 n 0 z' ∧ RM z' lr g a l N w T pi Np wp Tp ls bg tl sw B ∧ xL z' 60 = h' := by
  intro m
  induction m with
  | zero =>
    intro d k k' h z hv hk hk' h2 hz
    obtain ⟨k, rfl⟩ : ∃ e, k = e + 1 := ⟨k - 1, by omega⟩
    obtain ⟨k', rfl⟩ : ∃ e, k' = e + 1 := ⟨k' - 1, by omega⟩
    have e4 : (4 : Int32) ≤ nI d := nI_le (a := 4) (by omega) (by omega)
    refine ⟨h, z, ?_, ?_, h2, hz⟩
    · rw [b_X8_digest_6, if_pos e4]
      split <;> rfl
    · rw [b_X9_digest_9, if_pos e4]
  | succ m ih =>
    intro d k k' h z hv hk hk' h2 hz
    obtain ⟨k, rfl⟩ : ∃ e, k = e + 1 := ⟨k - 1, by omega⟩
    obtain ⟨k', rfl⟩ : ∃ e, k' = e + 1 := ⟨k' - 1, by omega⟩
    have e4 : ¬ (4 : Int32) ≤ nI d := nI_ge (b := 4) (by omega) (by omega)
    have hlr := h3.1
    rw [b_X8_digest_6, b_X9_digest_9, if_neg e4, if_neg e4, h1.1.1, h2.1.1]
    by_cases e : lr = 0
    · rw [if_pos e, if_pos (show nI 0 = 0 from rfl), if_pos (show nI lr ≤ 0 from by rw [e]; decide)]
      exact ⟨h, z, rfl, rfl, h2, hz⟩
    · rw [if_neg e, if_neg (show ¬ nI 1 = 0 from n10), if_neg (show ¬ nI lr ≤ 0 from fun q => by
        have := (nI_leI (b := 0) (by omega) (by omega)).mp q
        omega)]
      obtain ⟨h', z', i1, i2, i3, i4⟩ := D_deed1 (n := n) (d := d) hn h1 h3 e (by omega) 3 0 n n h z (by omega) (by omega) (by omega) h2 hz
      have i1' : f_X8_withDeed n 0 h (nI d) x = some (h', x) := i1
      rw [i1', ob, show nI d + (1 : Int32) = nI (d + 1) from nI_add ..]
      obtain ⟨h'', z'', j1, j2, j3, j4⟩ := ih (d + 1) k k' h' z' (by omega) (by omega) (by omega) i3 i4
      exact ⟨h'', z'', j1, (i2 _).trans j2, j3, j4⟩
/-- the people's part -/
theorem D_soon {p : Nat} (hn : 100 ≤ n) (h3 : RI tm lr g a l N w T pi Np wp Tp ls bg tl sw B) (hp : p < N) : ∀ (m d k k' : Nat) (h : Int64) (x z : am_X), d + m = 4 → m < k → m < k' → RC x lr g a l N w T pi Np wp Tp ls bg tl sw B → (∀ i, xK x i < 5) → RM z lr g a l N w T pi Np wp Tp ls bg tl sw B → xL z 60 = h → ∃ h' x' z', b_X8_withPerson_39 n k 0 (nI p) h (nI d) x = some (h', x') ∧ (∀ h63, b_X9_digest_98 n h63 k' 0 (nI p) (nI d) z = h63 0 (nI (p + 1)) z') ∧ eC x x' ∧ RM z' lr g a l N w T pi Np wp Tp ls bg tl sw B ∧ xL z' 60 = h' := by
  intro m
  induction m with
  | zero =>
    intro d k k' h x z hv hk hk' h1 hK h2 hz
    obtain ⟨k, rfl⟩ : ∃ e, k = e + 1 := ⟨k - 1, by omega⟩
    obtain ⟨k', rfl⟩ : ∃ e, k' = e + 1 := ⟨k' - 1, by omega⟩
    have e4 : (4 : Int32) ≤ nI d := nI_le (a := 4) (by omega) (by omega)
    refine ⟨h, x, z, ?_, fun h63 => ?_, eC.rf, h2, hz⟩
    · rw [b_X8_withPerson_39, S_isHere h1.2.2.1, ob, if_pos e4]
      split <;> rfl
    · rw [b_X9_digest_98, if_pos e4]
      unfold b_X9_digest_129
      rw [show nI p + (1 : Int32) = nI (p + 1) from nI_add ..]
  | succ m ih =>
    intro d k k' h x z hv hk hk' h1 hK h2 hz
    obtain ⟨k, rfl⟩ : ∃ e, k = e + 1 := ⟨k - 1, by omega⟩
    obtain ⟨k', rfl⟩ : ∃ e, k' = e + 1 := ⟨k' - 1, by omega⟩
    have e4 : ¬ (4 : Int32) ≤ nI d := nI_ge (b := 4) (by omega) (by omega)
    have h4 := h1.2.2.1.1
    have hQ := h2.2.2.1.2.2.2 p hp
    have hz1 := hQ.2.2.1
    have ehr : hr N T (nI p) = decide (pZ (T p) = 0) := by
      unfold hr
      rw [am_inB_nI hp (by omega), nI_c (by omega), Bool.true_and]
    rw [b_X8_withPerson_39, S_isHere h1.2.2.1, ob, if_neg e4, ehr]
    by_cases e : pZ (T p) = 0
    · rw [decide_eq_true e, if_pos rfl, if_neg n10]
      obtain ⟨c, x1, z1, i1, i2, i3, i4⟩ := J_soon (n := n) (d := d) hn hK h1 h2 h3 hp e (by omega)
      obtain ⟨h', x', z', j1, j2, j3, j4, j5⟩ := ih (d + 1) k k' ((31 : Int64) * h + Int32.toInt64 c) x1 (sL z1 60 ((31 : Int64) * h + Int32.toInt64 c)) (by omega) (by omega) (by omega) (i3.RC h1) (i3.2.2.2 hK) (eM_sL.RM (i4.eM.RM h2)) xL_60
      refine ⟨h', x', z', ?_, fun h63 => ?_, i3.tr j3, j4, j5⟩
      · rw [i1, ob, show nI d + (1 : Int32) = nI (d + 1) from nI_add ..]
        exact j1
      · rw [b_X9_digest_98, if_neg e4, if_pos (am_inB_nI (by omega) (by omega)), nI_c (by omega), hQ.2.2.2.2, e, if_neg (fun q => q rfl), i2, ob, J_mix, ob, show nI d + (1 : Int32) = nI (d + 1) from nI_add ..]
        dsimp only
        rw [show xL z1 60 = h from by rw [← hz]; exact congrFun (congrArg Prod.snd i4.2.2) 60]
        exact j2 h63
    · rw [decide_eq_false e, if_neg (show ¬ false = true from Bool.false_ne_true), if_pos rfl]
      refine ⟨h, x, z, rfl, fun h63 => ?_, eC.rf, h2, hz⟩
      rw [b_X9_digest_98, if_neg e4, if_pos (am_inB_nI (by omega) (by omega)), nI_c (by omega), hQ.2.2.2.2, if_pos (fun q => e ((z0 (by omega)).mp q))]
      unfold b_X9_digest_129
      rw [show nI p + (1 : Int32) = nI (p + 1) from nI_add ..]
theorem D_about {p : Nat} {x : am_X} (hn : 100 ≤ n) (h1 : RC x lr g a l N w T pi Np wp Tp ls bg tl sw B) (hp : p < N) : ∀ (m v k k' : Nat) (h : Int64) (z : am_X), v + m = 10 → m < k → m < k' → RM z lr g a l N w T pi Np wp Tp ls bg tl sw B → xL z 60 = h → ∃ h' z', b_X8_withPerson_6 n k 0 (nI p) h (nI v) x = b_X8_withPerson_39 n n 0 (nI p) h' (nI 0) x ∧ (∀ h63, b_X9_digest_73 n h63 k' 0 (nI p) (nI v) z = b_X9_digest_98 n h63 n 0 (nI p) (nI 0) z') ∧ RM z' lr g a l N w T pi Np wp Tp ls bg tl sw B ∧ xL z' 60 = h' := by
  intro m
  induction m with
  | zero =>
    intro v k k' h z hv hk hk' h2 hz
    obtain ⟨k, rfl⟩ : ∃ e, k = e + 1 := ⟨k - 1, by omega⟩
    obtain ⟨k', rfl⟩ : ∃ e, k' = e + 1 := ⟨k' - 1, by omega⟩
    have e3 : (10 : Int32) ≤ nI v := nI_le (a := 10) (by omega) (by omega)
    refine ⟨h, z, ?_, fun h9 => ?_, h2, hz⟩
    · rw [b_X8_withPerson_6, if_pos e3]; rfl
    · rw [b_X9_digest_73, if_pos e3]; rfl
  | succ m ih =>
    intro v k k' h z hv hk hk' h2 hz
    obtain ⟨k, rfl⟩ : ∃ e, k = e + 1 := ⟨k - 1, by omega⟩
    obtain ⟨k', rfl⟩ : ∃ e, k' = e + 1 := ⟨k' - 1, by omega⟩
    have e3 : ¬ (10 : Int32) ≤ nI v := nI_ge (b := 10) (by omega) (by omega)
    have h4 := h1.2.2.1.1
    have ab : f_X8_about n 0 (nI p) (nI v) x = some (pTold (T p) v, x) := by
      unfold f_X8_about
      rw [S_isKnown h1.2.2.1, ob, am_inB_nI hp (by omega), if_pos rfl, if_pos n10, show (10 : Int32) = nI (9 + 1) from rfl, rg_lt _ 9 (by omega), show rg 0 9 (nI v) = true from by unfold rg; rw [nI_toInt (by omega), Bool.and_eq_true, decide_eq_true_eq, decide_eq_true_eq]; omega, if_pos rfl, S_one (by omega), ob, S_told hn (h1.2.2.1.2.2.2 p (by omega)) (by omega), ob]
    obtain ⟨h', z', i1, i2, i3, i4⟩ := ih (v + 1) k k' ((31 : Int64) * h + Int32.toInt64 (pTold (T p) v)) (sL z 60 ((31 : Int64) * h + Int32.toInt64 (pTold (T p) v))) (by omega) (by omega) (by omega) (eM_sL.RM h2) xL_60
    refine ⟨h', z', ?_, fun h9 => ?_, i3, i4⟩
    · rw [b_X8_withPerson_6, if_neg e3, ab, ob, show nI v + (1 : Int32) = nI (v + 1) from nI_add ..]
      exact i1
    · rw [b_X9_digest_73, if_neg e3, M_told hn (by omega) (h2.2.2.1.2.2.2 p hp) (by omega), ob, J_mix, ob, show nI v + (1 : Int32) = nI (v + 1) from nI_add .., hz]
      exact i2 h9
theorem D_people (hn : 100 ≤ n) (h3 : RI tm lr g a l N w T pi Np wp Tp ls bg tl sw B) : ∀ (m p k k' : Nat) (h : Int64) (x z : am_X), p + m = N → m < k → m < k' → RC x lr g a l N w T pi Np wp Tp ls bg tl sw B → (∀ i, xK x i < 5) → RM z lr g a l N w T pi Np wp Tp ls bg tl sw B → xL z 60 = h → ∃ h' x' z', b_X8_digest_33 n k 0 h (nI p) x = b_X8_digest_59 n n 0 h' (nI 0) x' ∧ b_X9_digest_63 n k' 0 (nI p) z = b_X9_digest_137 n n 0 (nI 0) z' ∧ eC x x' ∧ RM z' lr g a l N w T pi Np wp Tp ls bg tl sw B ∧ xL z' 60 = h' := by
  intro m
  induction m with
  | zero =>
    intro p k k' h x z hv hk hk' h1 hK h2 hz
    obtain ⟨k, rfl⟩ : ∃ e, k = e + 1 := ⟨k - 1, by omega⟩
    obtain ⟨k', rfl⟩ : ∃ e, k' = e + 1 := ⟨k' - 1, by omega⟩
    have h4 := h1.2.2.1.1
    have e4 : nI N ≤ nI p := nI_le (by omega) (by omega)
    refine ⟨h, x, z, ?_, ?_, eC.rf, h2, hz⟩
    · rw [b_X8_digest_33, h1.2.2.1.2.1, if_pos e4]; rfl
    · rw [b_X9_digest_63, h2.2.2.1.2.1, if_pos e4]; rfl
  | succ m ih =>
    intro p k k' h x z hv hk hk' h1 hK h2 hz
    obtain ⟨k, rfl⟩ : ∃ e, k = e + 1 := ⟨k - 1, by omega⟩
    obtain ⟨k', rfl⟩ : ∃ e, k' = e + 1 := ⟨k' - 1, by omega⟩
    have h4 := h1.2.2.1.1
    have e4 : ¬ nI N ≤ nI p := nI_ge (by omega) (by omega)
    obtain ⟨h', z1, i1, i2, i3, i4⟩ := D_about (n := n) (p := p) hn h1 (by omega) 10 0 n n h z (by omega) (by omega) (by omega) h2 hz
    obtain ⟨h'', x2, z2, j1, j2, j3, j4, j5⟩ := D_soon (n := n) (p := p) hn h3 (by omega) 4 0 n n h' x z1 (by omega) (by omega) (by omega) h1 hK i3 i4
    obtain ⟨h5, x3, z3, l1, l2, l3, l4, l5⟩ := ih (p + 1) k k' h'' x2 z2 (by omega) (by omega) (by omega) (j3.RC h1) (j3.2.2.2 hK) j4 j5
    refine ⟨h5, x3, z3, ?_, ?_, j3.tr l3, l4, l5⟩
    · rw [b_X8_digest_33, h1.2.2.1.2.1, if_neg e4]
      have : f_X8_withPerson n 0 h (nI p) x = some (h'', x2) := i1.trans j1
      rw [this, ob, show nI p + (1 : Int32) = nI (p + 1) from nI_add ..]
      exact l1
    · rw [b_X9_digest_63, h2.2.2.1.2.1, if_neg e4]
      exact ((i2 _).trans (j2 _)).trans l2
/-- the page's part -/
theorem D_page {x : am_X} (hn : 100 ≤ n) (h1 : RC x lr g a l N w T pi Np wp Tp ls bg tl sw B) (h3 : RI tm lr g a l N w T pi Np wp Tp ls bg tl sw B) : ∀ (m v k k' : Nat) (h : Int64) (z : am_X), v + m = ls.length → m < k → m < k' → RM z lr g a l N w T pi Np wp Tp ls bg tl sw B → xL z 60 = h → ∃ h' z', b_X8_digest_59 n k 0 h (nI v) x = b_X8_digest_94 n n 0 h' (nI 0) x ∧ b_X9_digest_137 n k' 0 (nI v) z = b_X9_digest_164 n n 0 (nI 0) z' ∧ RM z' lr g a l N w T pi Np wp Tp ls bg tl sw B ∧ xL z' 60 = h' := by
  have h30 := h3.2.2.2.2.2.2.1.1
  intro m
  induction m with
  | zero =>
    intro v k k' h z hv hk hk' h2 hz
    obtain ⟨k, rfl⟩ : ∃ e, k = e + 1 := ⟨k - 1, by omega⟩
    obtain ⟨k', rfl⟩ : ∃ e, k' = e + 1 := ⟨k' - 1, by omega⟩
    have e3 : nI ls.length ≤ nI v := nI_le (by omega) (by omega)
    refine ⟨h, z, ?_, ?_, h2, hz⟩
    · rw [b_X8_digest_59, h1.2.2.2.2.1.1, if_pos e3]; rfl
    · rw [b_X9_digest_137, h2.2.2.2.2.1.1, if_pos e3]; rfl
  | succ m ih =>
    intro v k k' h z hv hk hk' h2 hz
    obtain ⟨k, rfl⟩ : ∃ e, k = e + 1 := ⟨k - 1, by omega⟩
    obtain ⟨k', rfl⟩ : ∃ e, k' = e + 1 := ⟨k' - 1, by omega⟩
    have e3 : ¬ nI ls.length ≤ nI v := nI_ge (by omega) (by omega)
    obtain ⟨h', z', i1, i2, i3, i4⟩ := ih (v + 1) k k' ((31 : Int64) * h + Int32.toInt64 (nI (ls.getD v 0))) (sL z 60 ((31 : Int64) * h + Int32.toInt64 (nI (ls.getD v 0)))) (by omega) (by omega) (by omega) (eM_sL.RM h2) xL_60
    refine ⟨h', z', ?_, ?_, i3, i4⟩
    · rw [b_X8_digest_59, h1.2.2.2.2.1.1, if_neg e3]
      unfold f_X5_at
      rw [if_neg (show ¬ nI v < 0 from fun e => by rw [lt_z, nI_toInt (by omega)] at e; omega), show (30 : Int32) = nI 30 from rfl, if_neg (nI_ge (by omega) (by omega)), if_pos (am_inB_nI (by omega) (by omega)), nI_c (by omega), h1.2.2.2.2.1.2 v (by omega), ob, show nI v + (1 : Int32) = nI (v + 1) from nI_add ..]
      exact i1
    · rw [b_X9_digest_137, h2.2.2.2.2.1.1, if_neg e3, if_pos (am_inB_nI (by omega) (by omega)), nI_c (by omega), h2.2.2.2.2.1.2 v (by omega), J_mix, ob, show nI v + (1 : Int32) = nI (v + 1) from nI_add .., hz]
      exact i2
theorem D_counts {x : am_X} (hn : 100 ≤ n) (h1 : RC x lr g a l N w T pi Np wp Tp ls bg tl sw B) : ∀ (m v k k' : Nat) (h : Int64) (z : am_X), v + m = 12 → m < k → m < k' → RM z lr g a l N w T pi Np wp Tp ls bg tl sw B → xL z 60 = h → ∃ h' z', b_X8_digest_94 n k 0 h (nI v) x = some (h', x) ∧ b_X9_digest_164 n k' 0 (nI v) z = some (h', z') ∧ RM z' lr g a l N w T pi Np wp Tp ls bg tl sw B := by
  intro m
  induction m with
  | zero =>
    intro v k k' h z hv hk hk' h2 hz
    obtain ⟨k, rfl⟩ : ∃ e, k = e + 1 := ⟨k - 1, by omega⟩
    obtain ⟨k', rfl⟩ : ∃ e, k' = e + 1 := ⟨k' - 1, by omega⟩
    have e3 : (12 : Int32) ≤ nI v := nI_le (a := 12) (by omega) (by omega)
    refine ⟨h, z, ?_, ?_, h2⟩
    · rw [b_X8_digest_94, if_pos e3]
    · rw [b_X9_digest_164, if_pos e3, hz]
  | succ m ih =>
    intro v k k' h z hv hk hk' h2 hz
    obtain ⟨k, rfl⟩ : ∃ e, k = e + 1 := ⟨k - 1, by omega⟩
    obtain ⟨k', rfl⟩ : ∃ e, k' = e + 1 := ⟨k' - 1, by omega⟩
    have e3 : ¬ (12 : Int32) ≤ nI v := nI_ge (b := 12) (by omega) (by omega)
    obtain ⟨c, q1, q2⟩ := J_count (n := n) hn h1 h2 (nI v)
    obtain ⟨h', z', i1, i2, i3⟩ := ih (v + 1) k k' ((31 : Int64) * h + Int32.toInt64 c) (sL z 60 ((31 : Int64) * h + Int32.toInt64 c)) (by omega) (by omega) (by omega) (eM_sL.RM h2) xL_60
    refine ⟨h', z', ?_, ?_, i3⟩
    · rw [b_X8_digest_94, if_neg e3, q1, ob, show nI v + (1 : Int32) = nI (v + 1) from nI_add ..]
      exact i1
    · rw [b_X9_digest_164, if_neg e3, q2, ob, J_mix, ob, show nI v + (1 : Int32) = nI (v + 1) from nI_add .., hz]
      exact i2
theorem O_digest {x z : am_X} (hn : 100 ≤ n) (ht : tm < 1000) (hk : ∀ i, xK x i < 5) (h : Rel tm x z) : Ok tm (f_X8_digest n 0 x) (f_X9_digest n 0 z) := by
  obtain ⟨lr, g, a, l, N, w, T, pi, Np, wp, Tp, ls, bg, tl, sw, B, h1, h2, h3⟩ := h
  have h4 := h1.2.2.1.1
  have h30 := h3.2.2.2.2.2.2.1.1
  unfold f_X8_digest f_X9_digest
  obtain ⟨a1, z1, b1, c1, d1, e1⟩ := D_deed (n := n) hn h1 h3 4 0 n n 733 (sL z 60 733) (by omega) (by omega) (by omega) (eM_sL.RM h2) xL_60
  obtain ⟨a2, x2, z2, b2, c2, d2, e2, f2⟩ := D_people (n := n) hn h3 N 0 n n a1 x z1 (by omega) (by omega) (by omega) h1 hk d1 e1
  have h1' := d2.RC h1
  obtain ⟨a3, z3, b3, c3, d3, e3⟩ := D_page (n := n) hn h1' h3 ls.length 0 n n a2 z2 (by omega) (by omega) (by omega) e2 f2
  obtain ⟨a4, z4, b4, c4, d4⟩ := D_counts (n := n) hn h1' 12 0 n n a3 z3 (by omega) (by omega) (by omega) d3 e3
  exact ⟨a4, x2, z4, ((b1.trans b2).trans b3).trans b4, ((c1.trans c2).trans c3).trans c4, Rel.up ⟨lr, g, a, l, N, w, T, pi, Np, wp, Tp, ls, bg, tl, sw, B, h1', d4, h3⟩ ht, d2.2.2.2 hk⟩
end O11
