/-! gain: the search of the reference, and the call -/
def gK : Nat → Nat
  | 0 => 1
  | m + 1 => 8 * (gK m + 1) + 1
theorem gK_le {m : Nat} (h : m ≤ 6) : gK m ≤ 599185 := by
  rcases (show m = 0 ∨ m = 1 ∨ m = 2 ∨ m = 3 ∨ m = 4 ∨ m = 5 ∨ m = 6 by omega) with e | e | e | e | e | e | e <;> subst e <;> decide
def gS (z : am_X) (l : LW) (K : Nat) (a : GA) : Prop := mL z l ∧ xA z 48 0 4 = nI K ∧ xF z 32 30 0 = nI a.1 + (-1) ∧ xF z 32 31 0 = nI a.2
theorem gS.go {z z' : am_X} {l : LW} {K d : Nat} {a : GA} (h : gS z l K a) (f : ∀ t k j, xF z' t k j = xF z t k j) (g : hF d z z') (e : xA z' 48 0 4 = nI K) : gS z' l K a := ⟨g.mL h.1, e, by rw [f]; exact h.2.2.1, by rw [f]; exact h.2.2.2⟩
theorem cancel_l (g : Int32) (k : Int32) : g + k - g = k := by rw [Int32.add_comm, Int32.add_sub_cancel]
theorem le_bI {a y : Nat} (ha : a ≤ 100) (hy : y ≤ 1000) : nI y ≤ nI a + (-1) ↔ ¬ a < y + 1 := by
  rw [Int32.le_iff_toInt_le, bI_int ha, nI_toInt (by omega)]
  omega
section MG
variable {n w0 W : Nat} {l : LW} {g0 : Int32}
theorem R_gain (hn : 100 ≤ n) (hl : lw_ok l) (hw : w0 ≤ 1001) (hW : W ≤ 6) (hW1 : 1 ≤ W) : ∀ (m d : Nat) (z : am_X) (P : PS) (y fa : Nat) (a : GA), d + m = W → pK P < 5 → a.1 ≤ 100 → y ≤ 10 * d → pG P = g0 + nI y → gS z l (pK P) a → rK z d P → xA z 69 0 d = nI 0 → mQ z 4 P → (d ≠ 0 → ∃ c0, xA z 69 0 0 = nI c0 ∧ 1 ≤ c0 ∧ c0 ≤ 8 ∧ fa = gA (c0 - 1)) → ∃ c z', c ≤ gK m ∧ (∀ k, b_X9_layGain_73 n (k + c) 0 (nI w0) (nI W) g0 (nI d) z = b_X9_layGain_73 n k 0 (nI w0) (nI W) g0 (nI d + (-1)) z') ∧ gS z' l (pK P) (gk l w0 m d y fa P a) ∧ hF d z z' := by
  intro m
  induction m with
  | zero =>
    intro d z P y fa a hd hK ha hy hg hS hr h69 hQ hf
    obtain ⟨c0, f1, f2, f3, f4⟩ := hf (by omega)
    have e49 : xA z 49 0 4 - g0 = nI y := by rw [hQ.2.2.2.1, hg, cancel_l]
    show ∃ c z', _ ∧ _ ∧ gS z' l (pK P) (if a.1 < y + 1 then (y + 1, fa) else a) ∧ _
    have top : ∀ k, b_X9_layGain_73 n (k + 1) 0 (nI w0) (nI W) g0 (nI d) z = (if nI y ≤ nI a.1 + (-1) then (b_X9_layGain_121 n (b_X9_layGain_73 n k) 0 (nI w0) (nI W) g0 (nI d) 0 (nI a.2) z) else (b_X9_layGain_121 n (b_X9_layGain_73 n k) 0 (nI w0) (nI W) g0 (nI d) 0 (nI fa) z)) := fun k => by
      rw [b_X9_layGain_73, if_neg (show ¬ nI d < 0 from fun e => by rw [lt_z, nI_toInt (by omega)] at e; omega), if_neg (show ¬ ¬ nI d = nI W from fun q => q (by rw [show d = W from by omega])), show Int32.toNatClampNeg (4 : Int32) = 4 from rfl, show Int32.toNatClampNeg (0 : Int32) = 0 from rfl, e49, hS.2.2.1, hS.2.2.2, f1, show nI c0 - (1 : Int32) = nI (c0 - 1) from nI_subi (b := 1) (by omega), M_actBy7 (by omega), ob, show (if c0 - 1 < 7 then dA (c0 - 1) else 9) = gA (c0 - 1) from rfl, ← f4]
    by_cases h : a.1 < y + 1
    · have hno : ¬ nI y ≤ nI a.1 + (-1) := fun q => (le_bI ha (by omega)).mp q h
      refine ⟨1, sF (sF z 32 31 0 (nI fa)) 32 30 0 (nI y), Nat.le_refl _, fun k => ?_, ?_, ⟨fun k o => by rw [xF_sF, if_neg (by omega), xF_sF, if_neg (by omega)], fun _ _ _ _ _ _ => rfl⟩⟩
      · rw [top, if_neg hno]
        unfold b_X9_layGain_121 b_X9_layGain_157
        rw [show Int32.toNatClampNeg (4 : Int32) = 4 from rfl, e49, hS.2.2.1, if_neg hno]
      · rw [if_pos h]
        exact ⟨⟨hS.1.1, by rw [xF_sF, if_neg (by omega), xF_sF, if_neg (by omega)]; exact hS.1.2⟩, hS.2.1, by rw [xF_sF, if_pos ⟨rfl, rfl, rfl⟩]; exact (pk_m1 y).symm, by rw [xF_sF, if_neg (by omega), xF_sF, if_pos ⟨rfl, rfl, rfl⟩]⟩
    · have hyes : nI y ≤ nI a.1 + (-1) := (le_bI ha (by omega)).mpr h
      refine ⟨1, sF (sF z 32 31 0 (nI a.2)) 32 30 0 (nI a.1 + (-1)), Nat.le_refl _, fun k => ?_, ?_, ⟨fun k o => by rw [xF_sF, if_neg (by omega), xF_sF, if_neg (by omega)], fun _ _ _ _ _ _ => rfl⟩⟩
      · rw [top, if_pos hyes]
        unfold b_X9_layGain_121 b_X9_layGain_157
        rw [show Int32.toNatClampNeg (4 : Int32) = 4 from rfl, e49, hS.2.2.1, if_pos hyes]
      · rw [if_neg h]
        exact ⟨⟨hS.1.1, by rw [xF_sF, if_neg (by omega), xF_sF, if_neg (by omega)]; exact hS.1.2⟩, hS.2.1, by rw [xF_sF, if_pos ⟨rfl, rfl, rfl⟩], by rw [xF_sF, if_neg (by omega), xF_sF, if_pos ⟨rfl, rfl, rfl⟩]⟩
  | succ m ih =>
    intro d z P y fa a hd hK ha hy hg hS hr h69 hQ hf
    have i8 : am_inB (nI d) 8 = true := am_inB_nI (by omega) (by omega)
    have node : ∀ (r p : Nat) (z : am_X) (a : GA), p + r = 8 → a.1 ≤ 100 → gS z l (pK P) a → rK z d P → xA z 69 0 d = nI p → (d ≠ 0 → ∃ c0, xA z 69 0 0 = nI c0 ∧ 1 ≤ c0 ∧ c0 ≤ 8 ∧ fa = gA (c0 - 1)) → ∃ c z', c ≤ r * (gK m + 1) + 1 ∧ (∀ k, b_X9_layGain_73 n (k + c) 0 (nI w0) (nI W) g0 (nI d) z = b_X9_layGain_73 n k 0 (nI w0) (nI W) g0 (nI d + (-1)) z') ∧ gS z' l (pK P) (gL (fun k a' => if may9 l (gA k) P = true then gk l w0 m (d + 1) (y + pGet l (gA k) P) (if d = 0 then gA k else fa) (stp l (gA k) (w0 + d) P) a' else a') r p a) ∧ hF d z z' := by
      intro r
      induction r with
      | zero =>
        intro p z a hp ha hS hr h69 hf
        refine ⟨1, z, by omega, fun k => ?_, hS, hF.rf⟩
        rw [b_X9_layGain_73, if_neg (show ¬ nI d < 0 from fun e => by rw [lt_z, nI_toInt (by omega)] at e; omega), if_pos (show ¬ nI d = nI W from fun q => by rw [nI_eqi (by omega) (by omega)] at q; omega), if_pos i8, nI_c (by omega), h69, if_neg (show ¬ ¬ nI p = (8 : Int32) from fun q => q (by rw [show p = 8 from by omega]; rfl))]
      | succ r ihr =>
        intro p z a hp ha hS hr h69 hf
        have hga := gA_ok p
        obtain ⟨z1, g1, g2, g3, g4, g5, g6, g7⟩ := M_goRow (n := n) (i := d) (w := w0 + d) (a := gA p) (v3 := 0) hn (by omega) hl (by omega) hK hS.2.1 hr hS.1 h69 (by omega) (M_actBy7 (by omega)) (gA_ok' p)
        have top : ∀ k, b_X9_layGain_73 n (k + 1) 0 (nI w0) (nI W) g0 (nI d) z = (if (if may9 l (gA p) P = true then (1 : Int32) else 0) = 0 then (b_X9_layGain_73 n k 0 (nI w0) (nI W) g0 (nI d) z1) else (b_X9_layGain_73 n k 0 (nI w0) (nI W) g0 (nI (d + 1)) z1)) := fun k => by
          rw [b_X9_layGain_73, if_neg (show ¬ nI d < 0 from fun e => by rw [lt_z, nI_toInt (by omega)] at e; omega), if_pos (show ¬ nI d = nI W from fun q => by rw [nI_eqi (by omega) (by omega)] at q; omega), if_pos i8, nI_c (by omega), h69, if_pos (show ¬ nI p = (8 : Int32) from fun q => by
            have := (nI_eq (b := 8) (by omega) (by omega)).mp q
            omega), nI_add, g1, ob]
          unfold b_X9_layGain_205
          rw [show nI d + (0 : Int32) = nI d from Int32.add_zero _, show nI d + (1 : Int32) = nI (d + 1) from nI_add ..]
        have hS1 := hS.go g2 g5 g4
        have hf1 : d ≠ 0 → ∃ c0, xA z1 69 0 0 = nI c0 ∧ 1 ≤ c0 ∧ c0 ≤ 8 ∧ fa = gA (c0 - 1) := fun e0 => by
          obtain ⟨c0, q1, q2⟩ := hf e0
          exact ⟨c0, by rw [g5.ct (by omega)]; exact q1, q2⟩
        show ∃ c z', _ ∧ _ ∧ gS z' l (pK P) (gL _ r (p + 1) (if may9 l (gA p) P = true then gk l w0 m (d + 1) (y + pGet l (gA p) P) (if d = 0 then gA p else fa) (stp l (gA p) (w0 + d) P) a else a)) ∧ _
        cases hm : may9 l (gA p) P with
        | false =>
          rw [if_neg (show ¬ false = true from Bool.false_ne_true)]
          obtain ⟨c, z', h1, h2, h3, h4⟩ := ihr (p + 1) z1 a (by omega) ha hS1 g6 g3 hf1
          refine ⟨c + 1, z', ?_, fun k => ?_, h3, g5.tr h4⟩
          · have h5 : r * (gK m + 1) ≤ (r + 1) * (gK m + 1) - 1 := by
              rw [Nat.succ_mul]
              omega
            have h6 : 1 ≤ (r + 1) * (gK m + 1) := by
              rw [Nat.succ_mul]
              omega
            omega
          · rw [show k + (c + 1) = (k + c) + 1 from by omega, top, hm, if_pos (show (if false = true then (1 : Int32) else 0) = 0 from rfl), h2]
        | true =>
          rw [if_pos rfl]
          obtain ⟨q1, q2, q3⟩ := g7 hm
          have hg10 := pGet_le (P := P) hl hga
          have hK' : pK (stp l (gA p) (w0 + d) P) < 5 := by rw [stp_K]; exact hK
          obtain ⟨c3, z3, d1, d2, d3, d4⟩ := ih (d + 1) z1 (stp l (gA p) (w0 + d) P) (y + pGet l (gA p) P) (if d = 0 then gA p else fa) a (by omega) hK' ha (by omega) (by rw [stp_G, hg, Int32.add_assoc, nI_add]) (by rw [stp_K]; exact hS1) q2 q3 q1 (fun _ => by
            by_cases e0 : d = 0
            · rw [if_pos e0]
              rw [e0] at g3
              exact ⟨p + 1, g3, by omega, by omega, rfl⟩
            · rw [if_neg e0]
              exact hf1 e0)
          rw [stp_K] at d3
          have hle := gk_le (w0 := w0) hl m (d + 1) (y + pGet l (gA p) P) (if d = 0 then gA p else fa) (stp l (gA p) (w0 + d) P) a ha (by omega)
          obtain ⟨c5, z5, h1, h2, h3, h4⟩ := ihr (p + 1) z3 _ (by omega) hle d3 (d4.rK (by omega) g6) (by rw [d4.ct (by omega)]; exact g3) (fun e0 => by
            obtain ⟨c0, r1, r2⟩ := hf1 e0
            exact ⟨c0, by rw [d4.ct (by omega)]; exact r1, r2⟩)
          refine ⟨c5 + c3 + 1, z5, ?_, fun k => ?_, h3, g5.tr ((d4.mono (by omega)).tr h4)⟩
          · rw [Nat.succ_mul]
            omega
          · rw [show k + (c5 + c3 + 1) = (k + c5 + c3) + 1 from by omega, top, hm, if_neg (show ¬ (if true = true then (1 : Int32) else 0) = 0 from n10), d2, pk_m1, h2]
    obtain ⟨c, z', h1, h2, h3, h4⟩ := node 8 0 z a rfl ha hS hr h69 hf
    exact ⟨c, z', h1, h2, h3, h4⟩
end MG
section O15
variable {n tm : Nat} {x z : am_X}
theorem S_start {j w W : Nat} {P : PS} {l : LW} (hn : 100 ≤ n) (hj : j < 4) (hP : cP x (4 * 0 + j) P) (hL : cL x 0 l) (hl : lw_ok l) (hw : w ≤ 1000) (hW : W ≤ 6) (hlap : cr_lap ((w : Int) - (l.2.2.2 : Int)) (pC P) = pC P) : ∃ x', f_X1_start n 0 (4 * 0 + j) 0 (nI w) (nI W) x = some x' ∧ xF x' 6 4 0 = nI (gk l (w + pA P) (W - pA P) 0 0 9 (pLap l (w + pA P) P) (0, 9)).1 + (-1) ∧ xF x' 6 5 0 = nI (gk l (w + pA P) (W - pA P) 0 0 9 (pLap l (w + pA P) P) (0, 9)).2 ∧ eC x x' := by
  have hA := hP.1.2.2.1
  obtain ⟨x1, g1, g2, g3⟩ := S_copyP (n := n) (i := 13) hn (by omega) hP
  unfold f_X1_start
  rw [g1, ob, g2.2.2.2.2.1]
  have key : ∀ (x2 : am_X) (Q : PS) (w0 W0 : Nat), cP x2 13 Q → pG Q = nI 0 → pA Q = 0 → cH 12 x x2 → cL x2 0 l → xF x2 6 2 0 = nI w0 → xF x2 6 1 0 = nI W0 → w0 ≤ 1001 → W0 ≤ 6 → ∃ x', b_X1_start_68 n 0 0 x2 = some x' ∧ xF x' 6 4 0 = nI (gk l w0 W0 0 0 9 Q (0, 9)).1 + (-1) ∧ xF x' 6 5 0 = nI (gk l w0 W0 0 0 9 Q (0, 9)).2 ∧ eC x x' := by
    intro x2 Q w0 W0 hQ hG hA0 hc hL2 e2 e1 hw0 hW0
    have c1 : cH 13 x2 (sF (sF (sF x2 6 4 0 (-1)) 6 5 0 9) 6 3 0 9) := ⟨fun t k i a b => by rw [xF_sF, if_neg (by omega), xF_sF, if_neg (by omega), xF_sF, if_neg (by omega)], fun _ _ _ _ => rfl, fun _ _ => rfl, fun h => h⟩
    obtain ⟨x', fa', i1, i2, i3, i4⟩ := C_hunt (n := n) (w0 := w0) (W := W0) (l := l) hn hl hw0 hW0 W0 0 8 (sF (sF (sF x2 6 4 0 (-1)) 6 5 0 9) 6 3 0 9) Q 0 9 (0, 9) (by omega) (by omega) (c1.cP (by omega) hQ) hG (by omega) hA0 (by decide) ⟨c1.cL hL2, by rw [xF_sF, if_neg (by omega), xF_sF, if_neg (by omega), xF_sF, if_neg (by omega)]; exact e1, by rw [xF_sF, if_neg (by omega), xF_sF, if_neg (by omega), xF_sF, if_neg (by omega)]; exact e2, by rw [xF_sF, if_pos ⟨rfl, rfl, rfl⟩]; rfl, by rw [xF_sF, if_neg (by omega), xF_sF, if_neg (by omega), xF_sF, if_pos ⟨rfl, rfl, rfl⟩]; rfl, by rw [xF_sF, if_neg (by omega), xF_sF, if_pos ⟨rfl, rfl, rfl⟩]; rfl⟩
    refine ⟨x', ?_, i2.2.2.2.2.1, i2.2.2.2.2.2, (hc.tr ((c1.mono (by omega)).tr (i4.mono (by omega)))).eC⟩
    unfold b_X1_start_68
    rw [show f_X1_tryFrom n 8 0 (0 : Int32) 0 (sF (sF (sF x2 6 4 0 (-1)) 6 5 0 9) 6 3 0 9) = some x' from i1, ob]
  have h1 : cH 12 x x1 := fP_cH g3 (by omega) g2
  by_cases e : pA P = 0
  · rw [if_pos ((z0 (by omega)).mpr e)]
    have f : ∀ t k i, ¬ (t = 6 ∨ (t = 4 ∧ k = 2)) → xF (sF (sF (sF x1 4 2 13 0) 6 2 0 (nI w)) 6 1 0 (nI W)) t k i = xF x1 t k i := fun t k i o => by rw [xF_sF, if_neg (by omega), xF_sF, if_neg (by omega), xF_sF, if_neg (by omega)]
    have hQ : cP (sF (sF (sF x1 4 2 13 0) 6 2 0 (nI w)) 6 1 0 (nI W)) 13 (pK P, (nI 0, (pO P, (pA P, (pZ P, pC P))))) := ⟨g2.1, g2.2.1, by rw [xF_sF, if_neg (by omega), xF_sF, if_neg (by omega), xF_sF, if_pos ⟨rfl, rfl, rfl⟩]; rfl, by rw [f _ _ _ (by omega)]; exact g2.2.2.2.1, by rw [f _ _ _ (by omega)]; exact g2.2.2.2.2.1, by rw [f _ _ _ (by omega)]; exact g2.2.2.2.2.2.1, by rw [f _ _ _ (by omega)]; exact g2.2.2.2.2.2.2.1, g2.2.2.2.2.2.2.2.1, g2.2.2.2.2.2.2.2.2.1, g2.2.2.2.2.2.2.2.2.2⟩
    have h2 : cH 12 x (sF (sF (sF x1 4 2 13 0) 6 2 0 (nI w)) 6 1 0 (nI W)) := h1.tr ⟨fun t k i a b => by rw [xF_sF, if_neg (by omega), xF_sF, if_neg (by omega), xF_sF, if_neg (by omega)], fun _ _ _ _ => rfl, fun _ _ => rfl, fun h => h⟩
    obtain ⟨x', i1, i2, i3, i4⟩ := key _ _ w W hQ rfl e h2 (h2.cL hL) (by rw [xF_sF, if_neg (by omega), xF_sF, if_pos ⟨rfl, rfl, rfl⟩]) (by rw [xF_sF, if_pos ⟨rfl, rfl, rfl⟩]) (by omega) hW
    have ec : gk l w W 0 0 9 (pK P, (nI 0, (pO P, (pA P, (pZ P, pC P))))) (0, 9) = gk l (w + pA P) (W - pA P) 0 0 9 (pLap l (w + pA P) P) (0, 9) := by
      rw [e, Nat.add_zero, Nat.sub_zero]
      exact gk_core W 0 0 9 _ _ _ rfl rfl hlap.symm
    rw [ec] at i2 i3
    exact ⟨x', i1, i2, i3, i4⟩
  · have e1 : pA P = 1 := by omega
    rw [if_neg (fun q => e ((z0 (by omega)).mp q)), show nI w + (1 : Int32) = nI (w + 1) from nI_add ..]
    have eW : (if (0 : Int32) < nI W - (1 : Int32) then nI W - (1 : Int32) else (0 : Int32)) = nI (W - 1) := by
      rcases (show W = 0 ∨ W = 1 ∨ W = 2 ∨ W = 3 ∨ W = 4 ∨ W = 5 ∨ W = 6 by omega) with e | e | e | e | e | e | e <;> subst e <;> decide
    rw [eW]
    have x62 : xF (sF (sF (sF (sF x1 4 2 13 0) 6 2 0 (nI w)) 6 1 0 (nI W)) 6 2 0 (nI (w + 1))) 6 2 0 = nI (w + 1) := by rw [xF_sF, if_pos ⟨rfl, rfl, rfl⟩]
    rw [x62]
    have f : ∀ t k i, ¬ (t = 6 ∨ (t = 4 ∧ k = 2)) → xF (sF (sF (sF (sF (sF x1 4 2 13 0) 6 2 0 (nI w)) 6 1 0 (nI W)) 6 2 0 (nI (w + 1))) 6 1 0 (nI (W - 1))) t k i = xF x1 t k i := fun t k i o => by rw [xF_sF, if_neg (by omega), xF_sF, if_neg (by omega), xF_sF, if_neg (by omega), xF_sF, if_neg (by omega), xF_sF, if_neg (by omega)]
    have hQ : cP (sF (sF (sF (sF (sF x1 4 2 13 0) 6 2 0 (nI w)) 6 1 0 (nI W)) 6 2 0 (nI (w + 1))) 6 1 0 (nI (W - 1))) 13 (pK P, (nI 0, (pO P, (pA P, (pZ P, pC P))))) := ⟨g2.1, g2.2.1, by rw [xF_sF, if_neg (by omega), xF_sF, if_neg (by omega), xF_sF, if_neg (by omega), xF_sF, if_neg (by omega), xF_sF, if_pos ⟨rfl, rfl, rfl⟩]; rfl, by rw [f _ _ _ (by omega)]; exact g2.2.2.2.1, by rw [f _ _ _ (by omega)]; exact g2.2.2.2.2.1, by rw [f _ _ _ (by omega)]; exact g2.2.2.2.2.2.1, by rw [f _ _ _ (by omega)]; exact g2.2.2.2.2.2.2.1, g2.2.2.2.2.2.2.2.1, g2.2.2.2.2.2.2.2.2.1, g2.2.2.2.2.2.2.2.2.2⟩
    have h2 : cH 12 x (sF (sF (sF (sF (sF x1 4 2 13 0) 6 2 0 (nI w)) 6 1 0 (nI W)) 6 2 0 (nI (w + 1))) 6 1 0 (nI (W - 1))) := h1.tr ⟨fun t k i a b => by rw [xF_sF, if_neg (by omega), xF_sF, if_neg (by omega), xF_sF, if_neg (by omega), xF_sF, if_neg (by omega), xF_sF, if_neg (by omega)], fun _ _ _ _ => rfl, fun _ _ => rfl, fun h => h⟩
    obtain ⟨x3, k1, k2, k3⟩ := S_enter (n := n) (w := w + 1) hn hQ (h2.cL hL) hl.2 (by omega)
    rw [k1, ob]
    have h3 := h2.tr (fP_cH k3 (by omega) k2)
    obtain ⟨x', i1, i2, i3, i4⟩ := key x3 _ (w + 1) (W - 1) k2 rfl rfl h3 (h3.cL hL) (by rw [k3.1 _ _ _ (by omega), xF_sF, if_neg (by omega), xF_sF, if_pos ⟨rfl, rfl, rfl⟩]) (by rw [k3.1 _ _ _ (by omega), xF_sF, if_pos ⟨rfl, rfl, rfl⟩]) (by omega) (by omega)
    have ec : gk l (w + 1) (W - 1) 0 0 9 (pEnt l (w + 1) (pK P, (nI 0, (pO P, (pA P, (pZ P, pC P)))))) (0, 9) = gk l (w + pA P) (W - pA P) 0 0 9 (pLap l (w + pA P) P) (0, 9) := by
      rw [e1]
      exact gk_core (W - 1) 0 0 9 _ _ _ rfl rfl rfl
    rw [ec] at i2 i3
    exact ⟨x', i1, i2, i3, i4⟩
theorem M_layGain {j w W : Nat} {P : PS} {l : LW} (hn : 1000000 ≤ n) (hj : j < 4) (hQ : mP z j P) (hM : mL z l) (hl : lw_ok l) (ew : xF z 32 6 0 = nI w) (hw : w ≤ 1000) (hW : W ≤ 6) : ∃ z', f_X9_layGain n 0 (nI j) (nI W) z = some z' ∧ xF z' 32 30 0 = nI (gk l (w + pA P) (W - pA P) 0 0 9 (pLap l (w + pA P) P) (0, 9)).1 + (-1) ∧ xF z' 32 31 0 = nI (gk l (w + pA P) (W - pA P) 0 0 9 (pLap l (w + pA P) P) (0, 9)).2 ∧ eM z z' := by
  have hA := hQ.2.1
  have i5 : am_inB (nI j) 5 = true := am_inB_nI (by omega) (by omega)
  unfold f_X9_layGain
  rw [if_pos i5, if_pos i5, nI_c (by omega), hQ.2.2.2.1, ew]
  by_cases e : pA P < W
  · have h1 : (1 : Int32) ≤ nI W - nI (pA P) := by rw [nI_subi (by omega)]; exact (nI_leI (a := 1) (by omega) (by omega)).mpr (by omega)
    rw [if_pos h1, nI_subi (by omega), nI_add, show (4 : Int32) = nI 4 from rfl]
    have hQ0 : mQ (sF (sF z 32 30 0 (-1)) 32 31 0 9) j P := hQ.1
    obtain ⟨z1, k1, k2, k3⟩ := M_copy (n := n) (p := j) (q := 4) (by omega) (by omega) (by omega) (by omega) hQ0
    have hM0 : mL (sF (sF z 32 30 0 (-1)) 32 31 0 9) l := ⟨hM.1, by rw [xF_sF, if_neg (by omega), xF_sF, if_neg (by omega)]; exact hM.2⟩
    obtain ⟨z2, l1, l2, l3⟩ := M_lapseP (n := n) (w := w + pA P) (by omega) (by omega) k2 (k3.mL hM0) hl.2 (by omega)
    obtain ⟨z3, m1, m2, m3, m4, m5, m6⟩ := M_keepRow (n := n) (i := 0) (by omega) (by omega) l2
    have q3 : mQ z3 4 (pLap l (w + pA P) P) := ⟨l2.1, l2.2.1, by rw [m5 _ _ _ (by omega) (by omega)]; exact l2.2.2.1, by rw [m5 _ _ _ (by omega) (by omega)]; exact l2.2.2.2.1, by rw [m5 _ _ _ (by omega) (by omega)]; exact l2.2.2.2.2.1, by rw [m5 _ _ _ (by omega) (by omega)]; exact l2.2.2.2.2.2.1, l2.2.2.2.2.2.2.1, l2.2.2.2.2.2.2.2.1, fun k hk => by rw [m5 _ _ _ (by omega) (by omega)]; exact l2.2.2.2.2.2.2.2.2 k hk⟩
    have f0 : hF 0 z (sF (sF z 32 30 0 (-1)) 32 31 0 9) := ⟨fun k o => by rw [xF_sF, if_neg (by omega), xF_sF, if_neg (by omega)], fun _ _ _ _ _ _ => rfl⟩
    have f2 := k3.tr l3.fQ
    have f3 : hF 0 z2 z3 := ⟨fun _ _ => m4 _ _ _, fun t q a b c e => m5 _ _ _ (by omega) (by omega)⟩
    have F : hF 0 z z3 := f0.tr ((f2.hF 0).tr f3)
    have S0 : gS z3 l (pK P) (0, 9) := ⟨F.mL hM, q3.2.2.1, by rw [m4, f2.1, xF_sF, if_neg (by omega), xF_sF, if_pos ⟨rfl, rfl, rfl⟩]; rfl, by rw [m4, f2.1, xF_sF, if_pos ⟨rfl, rfl, rfl⟩]; rfl⟩
    obtain ⟨c, z4, r1, r2, r3, r4⟩ := R_gain (n := n) (w0 := w + pA P) (W := W - pA P) (l := l) (g0 := pG P) (by omega) hl (by omega) (by omega) (by omega) (W - pA P) 0 z3 (pLap l (w + pA P) P) 0 9 (0, 9) (by omega) l2.1 (by decide) (by omega) (Int32.add_zero _).symm S0 m2 m3 q3 (fun q => absurd rfl q)
    have hc := gK_le (show W - pA P ≤ 6 by omega)
    obtain ⟨k, hk⟩ : ∃ k, n = k + 1 + c := ⟨n - 1 - c, by omega⟩
    refine ⟨z4, ?_, r3.2.2.1, r3.2.2.2, (F.tr r4).eM⟩
    rw [k1, ob, l1, ob, show (0 : Int32) = nI 0 from rfl, m1, ob, show Int32.toNatClampNeg (nI 4) = 4 from rfl, l2.2.2.2.1]
    have := r2 (k + 1)
    rw [← hk] at this
    have e2 : b_X9_layGain_73 n (k + 1) 0 (nI (w + pA P)) (nI (W - pA P)) (pG P) (nI 0 + (-1)) z4 = some z4 := by
      rw [b_X9_layGain_73, if_pos (show nI 0 + (-1 : Int32) < 0 from by decide)]
    exact this.trans e2
  · have h1 : ¬ (1 : Int32) ≤ nI W - nI (pA P) := fun q => by
      rw [Int32.le_iff_toInt_le, pk_sub_toInt (by omega) (by omega), show (1 : Int32).toInt = 1 from rfl] at q
      omega
    rw [if_neg h1, show W - pA P = 0 from by omega]
    refine ⟨_, rfl, ?_, ?_, ⟨fun k o => by unfold nF at o; rw [xF_sF, if_neg (by omega), xF_sF, if_neg (by omega), xF_sF, if_neg (by omega)], fun _ _ _ => rfl⟩⟩
    · rw [xF_sF, if_pos ⟨rfl, rfl, rfl⟩]
      exact (pk_m1 0).symm
    · rw [xF_sF, if_neg (by omega), xF_sF, if_pos ⟨rfl, rfl, rfl⟩]; rfl
theorem O_gain (hn : 1000000 ≤ n) (ht : tm < 1000) (hk : ∀ i, xK x i < 5) (h : Rel tm x z) (v1 v2 v3 : Int32) : Ok tm (f_X8_gain n 0 v1 v2 v3 x) (f_X9_gain n 0 v1 v2 v3 z) := by
  have h0 := h
  obtain ⟨lr, g, a, l, N, w, T, pi, Np, wp, Tp, ls, bg, tl, sw, B, h1, h2, h3⟩ := h
  have hc := h1.2.2.1
  have hm := h2.2.2.1
  have h4 := hc.1
  have hg := h3.2.1.1
  unfold f_X8_gain f_X9_gain
  rw [S_isHere hc, ob, M_isPerson hm, ob]
  cases hb : hr N T v1 with
  | false => exact Ok.same0 (v := -101) h0 hk ht rfl rfl
  | true =>
    obtain ⟨j, hj, rfl, hz⟩ := hr_of h4 hb
    have r6 : ∀ (A B : Option (Int32 × am_X)), (if v2 < 0 then A else if (6 : Int32) < v2 then A else B) = if rg 0 6 v2 = true then B else A := fun A B => by
      by_cases c1 : v2 < 0
      · rw [if_pos c1, if_neg]
        rw [lt_z] at c1
        unfold rg
        rw [Bool.and_eq_true, decide_eq_true_eq, decide_eq_true_eq]
        omega
      · rw [if_neg c1]
        rw [lt_z] at c1
        have e6 : (6 : Int32) < v2 ↔ (6 : Int) < v2.toInt := nI_lt' (a := 6) (by omega)
        by_cases c2 : (6 : Int32) < v2
        · rw [if_pos c2, if_neg]
          rw [e6] at c2
          unfold rg
          rw [Bool.and_eq_true, decide_eq_true_eq, decide_eq_true_eq]
          omega
        · rw [if_neg c2, if_pos]
          rw [e6] at c2
          unfold rg
          rw [Bool.and_eq_true, decide_eq_true_eq, decide_eq_true_eq]
          omega
    rw [if_pos rfl, if_pos n10, if_pos n10, r6, show (6 : Int32) = nI 6 from rfl, W_0 z v2 (by omega), ob]
    cases c2 : rg 0 6 v2 with
    | false => exact Ok.same0 (v := -102) h0 hk ht rfl rfl
    | true =>
      obtain ⟨W, _, hW, rfl⟩ := rg_of (by omega) c2
      have r1 : ∀ (A B : Option (Int32 × am_X)), (if v3 < 0 then A else if v3 ≤ (1 : Int32) then B else A) = if rg 0 1 v3 = true then B else A := fun A B => rg_le v3 1 (by omega) A B
      rw [if_pos rfl, if_pos rfl, if_neg n10, r1, show (1 : Int32) = nI 1 from rfl, W_0 z v3 (by omega), ob]
      cases c3 : rg 0 1 v3 with
      | false => exact Ok.same0 (v := -102) h0 hk ht rfl rfl
      | true =>
        rw [if_pos rfl, if_pos rfl, if_pos n10]
        dsimp only
        rw [h1.1.2.1, h2.1.2.2.1]
        by_cases e : g < 60
        · have hl := RI_law h3 (by omega)
          have h1' := RC_gains (g' := g + 1) h1
          have h2' := RM_gains (g' := g + 1) h2
          have hw : w ≤ 1000 := by have := h3.1; omega
          rw [if_pos (show nI g < (60 : Int32) from (nI_ltI (b := 60) (by omega) (by omega)).mpr e), if_pos (show ¬ nI g = (60 : Int32) from fun q => by
            have := (nI_eq (b := 60) (by omega) (by omega)).mp q
            omega), nI_add, S_one (by omega), ob]
          dsimp only
          rw [h1'.2.2.1.2.2.1]
          obtain ⟨x1, g1, g2, g3, g4⟩ := S_start (n := n) (W := W) (by omega) (show j < 4 by omega) (h1'.2.2.1.2.2.2 j (by omega)) h1'.2.1 hl hw hW (h3.2.2.2.2.2.2.2.2.2.1 j hj)
          obtain ⟨z1, k1, k2, k3, k4⟩ := M_layGain (n := n) (W := W) hn (show j < 4 by omega) (h2'.2.2.1.2.2.2 j hj) h2'.2.1 hl h2'.2.2.1.2.2.1 hw hW
          rw [g1, ob, k1, ob, g2, g3, k2, k3]
          have R : Rel (tm + 1) x1 z1 := Rel.up ⟨lr, g + 1, a, l, N, w, T, pi, Np, wp, Tp, ls, bg, tl, sw, B, g4.RC h1', k4.RM h2', by
            obtain ⟨i1, i2, i3⟩ := h3
            exact ⟨i1, ⟨by omega, i2.2⟩, i3⟩⟩ ht
          by_cases e3 : v3 = 0
          · rw [if_neg (fun q => q e3), if_neg (fun q => q e3)]
            exact ⟨_, x1, z1, rfl, rfl, R, g4.2.2.2 hk⟩
          · rw [if_pos e3, if_pos e3]
            exact ⟨_, x1, z1, rfl, rfl, R, g4.2.2.2 hk⟩
        · refine Ok.same0 (v := -103) h0 hk ht ?_ ?_
          · rw [if_neg (show ¬ nI g < (60 : Int32) from fun q => e ((nI_ltI (b := 60) (by omega) (by omega)).mp q))]
          · rw [if_neg (show ¬ ¬ nI g = (60 : Int32) from fun q => q (by rw [show g = 60 from by omega]; rfl))]
end O15
