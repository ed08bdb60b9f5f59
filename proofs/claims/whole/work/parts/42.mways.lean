/-! ways, in the reference: the walk through all rows of ACTS -/
abbrev WA : Type := Int32 × Int32
def wL (f : Nat → WA → WA) : Nat → Nat → WA → WA
  | 0, _, a => a
  | r + 1, p, a => wL f r (p + 1) (f p a)
def wk (l : LW) (tl : List Nat) (w0 : Nat) : Nat → Nat → PS → WA → WA
  | 0, _, P, a => (a.1 + 1, if a.2 < nI (pO P) then nI (pO P) else a.2)
  | m + 1, d, P, a => wL (fun k a' => if may9 l (dA k) P = true ∧ pG (stp l (dA k) (w0 + d) P) = nI (tl.getD d 0) then wk l tl w0 m (d + 1) (stp l (dA k) (w0 + d) P) a' else a') 12 0 a
def wK : Nat → Nat
  | 0 => 1
  | m + 1 => 12 * (wK m + 1) + 1
theorem wL_skip {f : Nat → WA → WA} : ∀ (r p : Nat) (a : WA), (∀ q, p ≤ q → q < p + r → ∀ b, f q b = b) → wL f r p a = a := by
  intro r
  induction r with
  | zero => intro p a _; rfl
  | succ r ih =>
    intro p a h
    show wL f r (p + 1) (f p a) = a
    rw [h p (by omega) (by omega), ih (p + 1) a (fun q h1 h2 b => h q (by omega) (by omega) b)]
theorem wL_cut {f : Nat → WA → WA} : ∀ (s r p : Nat) (a : WA), wL f (s + r) p a = wL f r (p + s) (wL f s p a) := by
  intro s
  induction s with
  | zero => intro r p a; rw [Nat.zero_add, Nat.add_zero]; rfl
  | succ s ih =>
    intro r p a
    rw [show s + 1 + r = (s + r) + 1 from by omega]
    show wL f (s + r) (p + 1) (f p a) = wL f r (p + (s + 1)) (wL f s (p + 1) (f p a))
    rw [ih, show p + 1 + s = p + (s + 1) from by omega]
/-- the rows of a walk -/
def wS (z : am_X) (l : LW) (tl : List Nat) (sw K : Nat) (a : WA) : Prop := mL z l ∧ xF z 32 33 0 = nI tl.length ∧ xF z 32 36 0 = nI sw ∧ (∀ k, k < tl.length → xA z 74 0 k = nI (tl.getD k 0)) ∧ xA z 48 0 4 = nI K ∧ xF z 32 42 0 = a.1 ∧ xF z 32 43 0 = a.2
theorem wS.go {z z' : am_X} {l : LW} {tl : List Nat} {sw K d : Nat} {a : WA} (h : wS z l tl sw K a) (f : ∀ t k j, xF z' t k j = xF z t k j) (g : hF d z z') (e : xA z' 48 0 4 = nI K) : wS z' l tl sw K a := ⟨g.mL h.1, by rw [f]; exact h.2.1, by rw [f]; exact h.2.2.1, fun k hk => by rw [g.2 _ _ (by omega) (by omega) (by omega) (by omega)]; exact h.2.2.2.1 k hk, e, by rw [f]; exact h.2.2.2.2.2.1, by rw [f]; exact h.2.2.2.2.2.2⟩
theorem sub1 (v : Int32) : v - 1 = v + (-1) := Int32.sub_eq_add_neg v 1
theorem T_row {n d sw : Nat} {l : LW} {P : PS} (hn : 100 ≤ n) (hd : d < 7) (hl : lw_ok l) (hw : sw ≤ 1000) (hK : pK P < 5) : ∀ (r p k : Nat) (z : am_X), p + r = 12 → r + 1 < k → rK z d P → xA z 48 0 4 = nI (pK P) → mL z l → xF z 32 36 0 = nI sw → xA z 69 0 d = nI p → (∃ z', b_X9_tryRow_2 n k 0 (nI d) 0 z = some (nI d + (-1), z') ∧ (∀ t k j, xF z' t k j = xF z t k j) ∧ hF d z z' ∧ xA z' 48 0 4 = nI (pK P) ∧ ∀ q, p ≤ q → q < 12 → may9 l (dA q) P = false) ∨ ∃ q z', p ≤ q ∧ q < 12 ∧ (∀ j, p ≤ j → j < q → may9 l (dA j) P = false) ∧ may9 l (dA q) P = true ∧ b_X9_tryRow_2 n k 0 (nI d) 0 z = some (nI (d + 1), z') ∧ (∀ t k j, xF z' t k j = xF z t k j) ∧ hF d z z' ∧ xA z' 48 0 4 = nI (pK P) ∧ xA z' 69 0 d = nI (q + 1) ∧ rK z' d P ∧ mQ z' 4 (stp l (dA q) (sw + d) P) ∧ rK z' (d + 1) (stp l (dA q) (sw + d) P) ∧ xA z' 69 0 (d + 1) = nI 0 := by
  intro r
  have i8 : am_inB (nI d) 8 = true := am_inB_nI (by omega) (by omega)
  induction r with
  | zero =>
    intro p k z hp hk hr h48 hM h36 h69
    obtain ⟨k, rfl⟩ : ∃ e, k = e + 1 := ⟨k - 1, by omega⟩
    refine Or.inl ⟨z, ?_, fun _ _ _ => rfl, hF.rf, h48, fun q h1 h2 => absurd h2 (by omega)⟩
    rw [b_X9_tryRow_2, if_pos i8, nI_c (by omega), h69, if_pos (show (12 : Int32) ≤ nI p from nI_le (a := 12) (by omega) (by omega))]
    unfold b_X9_tryRow_33
    rw [if_pos rfl, sub1]
  | succ r ih =>
    intro p k z hp hk hr h48 hM h36 h69
    obtain ⟨k, rfl⟩ : ∃ e, k = e + 1 := ⟨k - 1, by omega⟩
    have n12 : ¬ (12 : Int32) ≤ nI p := nI_ge (b := 12) (by omega) (by omega)
    have hok : dA p = 9 ∨ aOk (dA p) := by
      by_cases e : dA p = 9
      · exact Or.inl e
      · exact Or.inr (dA_ok e)
    obtain ⟨z1, g1, g2, g3, g4, g5, g6, g7⟩ := M_goRow (n := n) (w := sw + d) (v3 := 1) hn hd hl (by omega) hK h48 hr hM h69 (by omega) (M_actBy12 (by omega)) hok
    rw [b_X9_tryRow_2, if_pos i8, nI_c (by omega), h69, if_neg n12, if_neg (fun q => q rfl), h36, nI_add, g1, ob]
    cases hmay : may9 l (dA p) P with
    | false =>
      rw [if_neg (show ¬ false = true from Bool.false_ne_true)]
      rcases ih (p + 1) k z1 (by omega) (by omega) g6 g4 (g5.mL hM) (by rw [g2]; exact h36) g3 with ⟨z', i1, i2, i3, i4, i5⟩ | ⟨q, z', i1, i2, i3, i4, i5, i6, i7, i8', i9, i10⟩
      · refine Or.inl ⟨z', i1, fun t k j => (i2 t k j).trans (g2 t k j), g5.tr i3, i4, fun q h1 h2 => ?_⟩
        by_cases e : q = p
        · rw [e]; exact hmay
        · exact i5 q (by omega) h2
      · refine Or.inr ⟨q, z', by omega, i2, fun j h1 h2 => ?_, i4, i5, fun t k j => (i6 t k j).trans (g2 t k j), g5.tr i7, i8', i9, i10⟩
        by_cases e : j = p
        · rw [e]; exact hmay
        · exact i3 j (by omega) h2
    | true =>
      obtain ⟨q1, q2, q3⟩ := g7 hmay
      rw [if_pos rfl]
      refine Or.inr ⟨p, z1, Nat.le_refl p, by omega, fun j h1 h2 => absurd h2 (by omega), hmay, ?_, g2, g5, g4, g3, g6, q1, q2, q3⟩
      obtain ⟨k, rfl⟩ : ∃ e, k = e + 1 := ⟨k - 1, by omega⟩
      rw [b_X9_tryRow_2, if_pos i8]
      unfold b_X9_tryRow_33
      rw [if_neg n10, if_pos n10, show nI d + (1 : Int32) = nI (d + 1) from nI_add ..]
      split <;> rfl
section MW
variable {n sw : Nat} {l : LW} {tl : List Nat}
/-- at a row: what it told agrees -/
theorem W_top {d k : Nat} {z : am_X} {P : PS} {K : Nat} {a : WA} (hd : d ≤ tl.length) (h5 : tl.length ≤ 5) (hS : wS z l tl sw K a) (hQ : mQ z 4 P) (hg : d = 0 ∨ pG P = nI (tl.getD (d - 1) 0)) : b_X9_layWays_86 n (k + 1) 0 (nI d) z = b_X9_layWays_117 n (b_X9_layWays_86 n k) 0 (nI d) z := by
  rw [b_X9_layWays_86, if_neg (show ¬ nI d < 0 from fun e => by rw [lt_z, nI_toInt (by omega)] at e; omega)]
  by_cases e : d = 0
  · rw [if_pos (show nI d ≤ 0 from by rw [e]; decide)]
  · rw [if_neg (show ¬ nI d ≤ 0 from fun q => by
      have := (nI_leI (b := 0) (by omega) (by omega)).mp q
      omega), show nI d - (1 : Int32) = nI (d - 1) from nI_subi (b := 1) (by omega), if_pos (am_inB_nI (by omega) (by omega)), nI_c (by omega), show Int32.toNatClampNeg (4 : Int32) = 4 from rfl, hS.2.2.2.1 (d - 1) (by omega), hQ.2.2.2.1, if_pos (hg.resolve_left e)]
/-- ... or not -/
theorem W_no {d k : Nat} {z : am_X} {P : PS} {K : Nat} {a : WA} (hd : d < tl.length) (h5 : tl.length ≤ 5) (hS : wS z l tl sw K a) (hQ : mQ z 4 P) (hg : ¬ pG P = nI (tl.getD d 0)) : b_X9_layWays_86 n (k + 1) 0 (nI (d + 1)) z = b_X9_layWays_177 n (b_X9_layWays_86 n k) 0 (nI (d + 1) + (-1)) z := by
  rw [b_X9_layWays_86, if_neg (show ¬ nI (d + 1) < 0 from fun e => by rw [lt_z, nI_toInt (by omega)] at e; omega), if_neg (show ¬ nI (d + 1) ≤ 0 from fun q => by
      have := (nI_leI (b := 0) (by omega) (by omega)).mp q
      omega), show nI (d + 1) - (1 : Int32) = nI d from nI_subi (a := d + 1) (b := 1) (by omega), if_pos (am_inB_nI (by omega) (by omega)), nI_c (by omega), show Int32.toNatClampNeg (4 : Int32) = 4 from rfl, hS.2.2.2.1 d (by omega), hQ.2.2.2.1, if_neg hg]
theorem W_177 {d : Nat} {z : am_X} {P : PS} {h86 : Nat → Int32 → am_X → Option am_X} (hn : 100 ≤ n) (hd : d < 8) (hK : pK P < 5) (h48 : xA z 48 0 4 = nI (pK P)) (hr : rK z d P) : ∃ z', b_X9_layWays_177 n h86 0 (nI d) z = h86 0 (nI d) z' ∧ mQ z' 4 P ∧ fQ 4 z z' := by
  obtain ⟨z', g1, g2, g3⟩ := M_backRow (n := n) hn hd hK h48 hr
  refine ⟨z', ?_, g2, g3⟩
  unfold b_X9_layWays_177
  rw [if_neg (show ¬ nI d < 0 from fun e => by rw [lt_z, nI_toInt (by omega)] at e; omega), g1, ob]
theorem R_walk (hn : 100 ≤ n) (hl : lw_ok l) (hw : sw ≤ 1000) (h5 : tl.length ≤ 5) : ∀ (m d : Nat) (z : am_X) (P : PS) (a : WA), d + m = tl.length → pK P < 5 → wS z l tl sw (pK P) a → mQ z 4 P → rK z d P → xA z 69 0 d = nI 0 → (d = 0 ∨ pG P = nI (tl.getD (d - 1) 0)) → ∃ c z', c ≤ wK m ∧ (∀ k, b_X9_layWays_86 n (k + c) 0 (nI d) z = b_X9_layWays_177 n (b_X9_layWays_86 n k) 0 (nI d + (-1)) z') ∧ wS z' l tl sw (pK P) (wk l tl sw m d P a) ∧ hF d z z' := by
  intro m
  induction m with
  | zero =>
    intro d z P a hd hK hS hQ hr h69 hg
    refine ⟨1, sF (sF z 32 42 0 (a.1 + 1)) 32 43 0 (if a.2 < nI (pO P) then nI (pO P) else a.2), Nat.le_refl _, fun k => ?_, ⟨⟨hS.1.1, by rw [xF_sF, if_neg (by omega), xF_sF, if_neg (by omega)]; exact hS.1.2⟩, by rw [xF_sF, if_neg (by omega), xF_sF, if_neg (by omega)]; exact hS.2.1, by rw [xF_sF, if_neg (by omega), xF_sF, if_neg (by omega)]; exact hS.2.2.1, hS.2.2.2.1, hS.2.2.2.2.1, by rw [xF_sF, if_neg (by omega), xF_sF, if_pos ⟨rfl, rfl, rfl⟩]; rfl, by rw [xF_sF, if_pos ⟨rfl, rfl, rfl⟩]; rfl⟩, ⟨fun k o => by rw [xF_sF, if_neg (by omega), xF_sF, if_neg (by omega)], fun _ _ _ _ _ _ => rfl⟩⟩
    rw [W_top (by omega) h5 hS hQ hg]
    unfold b_X9_layWays_117 b_X9_layWays_162
    rw [hS.2.1, if_neg (show ¬ ¬ nI d = nI tl.length from fun q => q (by rw [show d = tl.length from by omega])), show Int32.toNatClampNeg (4 : Int32) = 4 from rfl, hQ.2.2.2.2.1, hS.2.2.2.2.2.1, hS.2.2.2.2.2.2]
    by_cases e : nI (pO P) ≤ a.2
    · rw [if_pos e, if_neg (show ¬ a.2 < nI (pO P) from fun q => by
        rw [Int32.lt_iff_toInt_lt] at q
        rw [Int32.le_iff_toInt_le] at e
        omega)]
    · rw [if_neg e, if_pos (show a.2 < nI (pO P) from by
        rw [Int32.lt_iff_toInt_lt]
        rw [Int32.le_iff_toInt_le] at e
        omega)]
  | succ m ih =>
    intro d z P a hd hK hS hQ hr h69 hg
    have node : ∀ (R r p : Nat) (z : am_X) (a : WA), r ≤ R → p + r = 12 → wS z l tl sw (pK P) a → mQ z 4 P → rK z d P → xA z 69 0 d = nI p → ∃ c z', c ≤ r * (wK m + 1) + 1 ∧ (∀ k, b_X9_layWays_86 n (k + c) 0 (nI d) z = b_X9_layWays_177 n (b_X9_layWays_86 n k) 0 (nI d + (-1)) z') ∧ wS z' l tl sw (pK P) (wL (fun k a' => if may9 l (dA k) P = true ∧ pG (stp l (dA k) (sw + d) P) = nI (tl.getD d 0) then wk l tl sw m (d + 1) (stp l (dA k) (sw + d) P) a' else a') r p a) ∧ hF d z z' := by
      intro R
      induction R with
      | zero =>
        intro r p z a hR hp hS hQ hr h69
        have er : r = 0 := by omega
        subst er
        rcases T_row (n := n) hn (show d < 7 by omega) hl hw hK 0 p n z hp (by omega) hr hS.2.2.2.2.1 hS.1 hS.2.2.1 h69 with ⟨z', i1, i2, i3, i4, i5⟩ | ⟨q, z', i1, i2, i3⟩
        · refine ⟨1, z', by omega, fun k => ?_, hS.go i2 i3 i4, i3⟩
          rw [W_top (by omega) h5 hS hQ hg]
          unfold b_X9_layWays_117 f_X9_tryRow
          rw [hS.2.1, if_pos (show ¬ nI d = nI tl.length from fun q => by rw [nI_eqi (by omega) (by omega)] at q; omega), i1, ob]
        · omega
      | succ R ihR =>
        intro r p z a hR hp hS hQ hr h69
        rcases T_row (n := n) hn (show d < 7 by omega) hl hw hK r p n z hp (by omega) hr hS.2.2.2.2.1 hS.1 hS.2.2.1 h69 with ⟨z', i1, i2, i3, i4, i5⟩ | ⟨q, z1, i1, i2, i3, i4, i5, i6, i7, i8, i9, i10, i11, i12, i13⟩
        · refine ⟨1, z', by omega, fun k => ?_, ?_, i3⟩
          · rw [W_top (by omega) h5 hS hQ hg]
            unfold b_X9_layWays_117 f_X9_tryRow
            rw [hS.2.1, if_pos (show ¬ nI d = nI tl.length from fun q => by rw [nI_eqi (by omega) (by omega)] at q; omega), i1, ob]
          · rw [wL_skip r p a (fun q h1 h2 b => if_neg (fun w => by rw [i5 q h1 (by omega)] at w; exact Bool.false_ne_true w.1))]
            exact hS.go i2 i3 i4
        · -- a child
          have hS1 := hS.go i6 i7 i8
          have hK' : pK (stp l (dA q) (sw + d) P) < 5 := by rw [stp_K]; exact hK
          have h48' : xA z1 48 0 4 = nI (pK (stp l (dA q) (sw + d) P)) := by rw [stp_K]; exact i8
          have step1 : ∀ k, b_X9_layWays_86 n (k + 1) 0 (nI d) z = b_X9_layWays_177 n (b_X9_layWays_86 n k) 0 (nI (d + 1)) z1 := fun k => by
            rw [W_top (by omega) h5 hS hQ hg]
            unfold b_X9_layWays_117 f_X9_tryRow
            rw [hS.2.1, if_pos (show ¬ nI d = nI tl.length from fun q => by rw [nI_eqi (by omega) (by omega)] at q; omega), i5, ob]
          -- into the child
          obtain ⟨z2, b1, b2, b3⟩ := M_backRow (n := n) hn (show d + 1 < 8 by omega) hK' h48' i12
          have step2 : ∀ h86, b_X9_layWays_177 n h86 0 (nI (d + 1)) z1 = h86 0 (nI (d + 1)) z2 := fun h86 => by
            unfold b_X9_layWays_177
            rw [if_neg (show ¬ nI (d + 1) < 0 from fun e => by rw [lt_z, nI_toInt (by omega)] at e; omega), b1, ob]
          have hS2 : wS z2 l tl sw (pK P) a := hS1.go b3.1 (b3.hF d) (by rw [b2.2.2.1, stp_K])
          have r2 : rK z2 d P := fQ_rK b3 i10
          have r2' := fQ_rK b3 i12
          have c2 : xA z2 69 0 d = nI (q + 1) := by rw [b3.2.1 _ _ _ (by omega) (by omega)]; exact i9
          have c2' : xA z2 69 0 (d + 1) = nI 0 := by rw [b3.2.1 _ _ _ (by omega) (by omega)]; exact i13
          -- the child's walk
          have child : ∃ c z3, c ≤ wK m ∧ (∀ k, b_X9_layWays_86 n (k + c) 0 (nI (d + 1)) z2 = b_X9_layWays_177 n (b_X9_layWays_86 n k) 0 (nI (d + 1) + (-1)) z3) ∧ wS z3 l tl sw (pK P) (if may9 l (dA q) P = true ∧ pG (stp l (dA q) (sw + d) P) = nI (tl.getD d 0) then wk l tl sw m (d + 1) (stp l (dA q) (sw + d) P) a else a) ∧ hF (d + 1) z2 z3 := by
            by_cases eg : pG (stp l (dA q) (sw + d) P) = nI (tl.getD d 0)
            · rw [if_pos ⟨i4, eg⟩]
              have := ih (d + 1) z2 (stp l (dA q) (sw + d) P) a (by omega) hK' (by rw [stp_K]; exact hS2) b2 r2' c2' (Or.inr eg)
              rw [stp_K] at this
              exact this
            · rw [if_neg (fun w => eg w.2)]
              have h1 : 1 ≤ wK m := by cases m <;> (unfold wK; omega)
              exact ⟨1, z2, h1, fun k => W_no (by omega) h5 hS2 b2 eg, hS2, hF.rf⟩
          obtain ⟨c3, z3, d1, d2, d3, d4⟩ := child
          -- back
          obtain ⟨z4, e1, e2, e3⟩ := M_backRow (n := n) hn (show d < 8 by omega) hK d3.2.2.2.2.1 (d4.rK (by omega) r2)
          have step4 : ∀ h86, b_X9_layWays_177 n h86 0 (nI (d + 1) + (-1)) z3 = h86 0 (nI d) z4 := fun h86 => by
            rw [pk_m1]
            unfold b_X9_layWays_177
            rw [if_neg (show ¬ nI d < 0 from fun e => by rw [lt_z, nI_toInt (by omega)] at e; omega), e1, ob]
          have hS4 := d3.go e3.1 (e3.hF d) (by rw [e2.2.2.1])
          obtain ⟨c5, z5, f1, f2, f3, f4⟩ := ihR (11 - q) (q + 1) z4 _ (by omega) (by omega) hS4 e2 (fQ_rK e3 (d4.rK (by omega) r2)) (by rw [e3.2.1 _ _ _ (by omega) (by omega), d4.ct (by omega)]; exact c2)
          refine ⟨c5 + c3 + 1, z5, ?_, fun k => ?_, ?_, i7.tr ((b3.hF d).tr ((d4.mono (by omega)).tr ((e3.hF d).tr f4)))⟩
          · have h1 : r = (11 - q) + (r - (11 - q)) := by omega
            have h2 : 1 ≤ r - (11 - q) := by omega
            have h3 : (11 - q) * (wK m + 1) + (wK m + 1) ≤ r * (wK m + 1) := by
              rw [← Nat.succ_mul]
              exact Nat.mul_le_mul_right _ (by omega)
            omega
          · rw [show k + (c5 + c3 + 1) = (k + c5 + c3) + 1 from by omega, step1, step2, d2, step4, f2]
          · have hr12 : r = (q - p) + (1 + (11 - q)) := by omega
            rw [hr12, wL_cut, wL_skip (q - p) p a (fun j h1 h2 b => if_neg (fun w => by rw [i3 j h1 (by omega)] at w; exact Bool.false_ne_true w.1)), show p + (q - p) = q from by omega, wL_cut]
            exact f3
    obtain ⟨c, z', h1, h2, h3, h4⟩ := node 12 12 0 z a (Nat.le_refl _) rfl hS hQ hr h69
    exact ⟨c, z', h1, h2, h3, h4⟩
end MW
