/-! CONSTRUCTORS: Town, Hunt, Ledger -/
theorem ct_wp_add (ca : Nat → ClassId) (k0 : Nat) (ps : List (Nat × Nat × Nat)) (p : Nat × Nat × Nat) : ct_wp ca k0 (ps ++ [p]) = ct_wp ca k0 ps ++ ct_ps ca k0 p := by
  unfold ct_wp
  rw [List.flatMap_append, List.flatMap_cons, List.flatMap_nil, List.append_nil]
theorem ct_f_add (ps : List (Nat × Nat × Nat)) (p : Nat × Nat × Nat) : va_up (ct_f ps) ps.length (some p.1) = ct_f (ps ++ [p]) := by
  funext j
  unfold va_up ct_f
  by_cases h1 : j = ps.length
  · subst h1
    rw [if_pos rfl, List.getElem?_append_right (Nat.le_refl _), Nat.sub_self]
    rfl
  · rw [if_neg h1]
    rcases Nat.lt_or_ge j ps.length with h2 | h2
    · rw [List.getElem?_append_left h2]
    · rw [List.getElem?_eq_none h2, List.getElem?_eq_none (by rw [List.length_append]; show ps.length + 1 ≤ j; omega)]
section CTE
variable {p : Program} {l : Launch} {e : Env} {R : Room} {s : State} {m : MethodId} {args : Array Value} {below : List Frame} {meth : Method} {c : Code} {H : Heap} {locs : List Loc} {nc ns : Nat} {Q : State → Prop} {ls : Array Slot} {pc : Nat}
variable {cc : ByteArray} {nL : Nat} {own : String} {sz0 k0 : Nat} {ca : Nat → ClassId} {D : va_G} {A : Nat → Prop} {w0 : va_W} {n a index jx : Nat} {ps : List (Nat × Nat × Nat)}
theorem ct_elem (Cx : ct_Cx cc nL own sz0 k0 ca D A p s m c) (hcl : Cond.classLink own index RX6 ∈ lw_tbl) (hml : am_ml own jx yX6_init) (hf : 3 ≤ R.frames) (hlo : 120 ≤ R.locals) (hls : ls.size = nL) (hi : ps.length < n) (hn : n < 2 ^ 31) (hW : ct_W D A s (w0 ++ (a, ct_ra ca n (ct_f ps)) :: ct_wp ca k0 ps) H locs) (hnc : nc + 3 ≤ R.cells) (hns : ns + 20 ≤ R.slots) (d1 : decode cc pc = .ok (.new index, 3)) (d2 : decode cc (pc + 3) = .ok (.dup, 1)) (d3 : decode cc (pc + 3 + 1) = .ok (.invokespecial jx, 3)) (d4 : decode cc (pc + 3 + 1 + 3) = .ok (.aastore, 1))
    (kk : ∀ (p1 : Nat × Nat × Nat) (H1 : Heap) (locs1 : List Loc), ct_W D A s (w0 ++ (a, ct_ra ca n (ct_f (ps ++ [p1]))) :: ct_wp ca k0 (ps ++ [p1])) H1 locs1 → W p l e R s m args below meth c H1 locs1 (nc + 3) (ns + 20) Q (F0 m (pc + 3 + 1 + 3 + 1) ls [])) : W p l e R s m args below meth c H locs nc ns Q (F0 m pc ls [.int (nI ps.length), .ref a]) := by
  refine ct_new (t := 4) (fs := [.null, .null, .int 0, .int 0, .int 0, .int 0]) Cx cf_4 df_X6 hcl (am_w1 80 rfl) (am_w1 5 rfl) hW (by omega) (by show ns + 6 ≤ R.slots; omega) d1 (fun q H hW => ?_)
  refine lv_dup Cx.1 Cx.2.1 d2 rfl ?_
  refine ct_call (ws := w0 ++ (a, ct_ra ca n (ct_f ps)) :: ct_wp ca k0 ps) (q := q) Cx (ct_X6 l sz0 k0 ca D) mo_X6_init rfl (am_w1 82 rfl) hml hf hlo hls (Nat.le_of_ble_eq_true rfl) hW (by omega) (by show ns + 6 + 14 ≤ R.slots; omega) d3 (fun w1 H locs hX hW => ?_)
  obtain ⟨c1, r1, rfl⟩ := hX
  refine W.widen (k := nc + 3) (n := ns + 20) (by omega) (by show ns + 6 + 14 ≤ ns + 20; omega) ?_
  rw [List.append_assoc] at hW
  obtain ⟨hx, hb, -, hown, hen, hZ, hK, hA, hA0⟩ := Cx
  refine va_astq (D := D) (r := (RX6, TX6, 6)) (f := ct_f ps) (n := n) hx hb hK hW.1 hW.2.1 hW.2.2 w0.length 2 (w0.length + 1 + (ct_wp ca k0 ps).length) 5 ?_ rfl (vs := [.ref c1, .ref k0, .int 0, .int 0, .int 0, .int 0]) ?_ rfl (vp_in_nI hi hn) d4 (fun H locs h1 h2 h3 => ?_)
  · rw [List.getElem?_append_right (Nat.le_refl _), Nat.sub_self]
    rfl
  · rw [List.getElem?_append_right (by omega), show w0.length + 1 + (ct_wp ca k0 ps).length - w0.length = (ct_wp ca k0 ps).length + 1 by omega, List.cons_append, List.getElem?_cons_succ, List.getElem?_append_right (Nat.le_refl _), Nat.sub_self]
    rfl
  · have e : (w0 ++ ((a, ct_ra ca n (ct_f ps)) :: ct_wp ca k0 ps ++ ct_ps ca k0 (q, c1, r1))).set w0.length (a, ct_ra ca n (va_up (ct_f ps) (nI ps.length).toNatClampNeg (some q))) = w0 ++ (a, ct_ra ca n (ct_f (ps ++ [(q, c1, r1)]))) :: ct_wp ca k0 (ps ++ [(q, c1, r1)]) := by
      rw [List.set_append_right _ _ (Nat.le_refl _), Nat.sub_self, nI_clamp (by omega), ct_wp_add]
      show w0 ++ (a, ct_ra ca n (va_up (ct_f ps) ps.length (some (q, c1, r1).1))) :: (ct_wp ca k0 ps ++ ct_ps ca k0 (q, c1, r1)) = _
      rw [ct_f_add]
    exact kk (q, c1, r1) H locs ⟨e ▸ h1, e ▸ h2, h3⟩
end CTE
set_option maxRecDepth 20000 in
theorem ct_X7 (l : Launch) (sz0 k0 : Nat) (ca : Nat → ClassId) (D : va_G) : ct_M l yX7_init cX7_init 2 3 13 84 6 [.null, .int 0, .int 0, .int 0, .int 0] sz0 k0 ca D (fun h w => ∃ (a : Nat) (ps : List (Nat × Nat × Nat)), ps.length = 4 ∧ w = ct_wT ca k0 h a ps) := by
  refine ct_met (by decide) rfl (Nat.le_of_ble_eq_true rfl) (fun h0 p e s m below meth c A ls Cx hin hr hlk hW hl => ?_)
  have Cx : ct_Cx cX7_init 2 RX7 sz0 k0 ca D A p s m c := Cx
  refine lv_aload_n Cx.1 Cx.2.1 dX7_init_0 rfl (lv_at hl 0 rfl) ?_
  refine ct_oi Cx hl.1 (am_w1 77 rfl) (Nat.le_of_ble_eq_true rfl) (Nat.le_of_ble_eq_true rfl) dX7_init_1 ?_
  refine lv_aload_n Cx.1 Cx.2.1 dX7_init_4 rfl (lv_at hl 0 rfl) ?_
  refine lv_iconst (v := 4) Cx.1 Cx.2.1 dX7_init_5 (by decide) ?_
  refine ct_newq (N := 4) Cx (am_w1 78 rfl) hW (by decide) (by decide) (by decide) (Nat.le_of_ble_eq_true rfl) (Nat.le_of_ble_eq_true rfl) dX7_init_6 (fun q1 H hW => ?_)
  have hW : ct_W D A s [(h0, .inr (6, [.null, .int 0, .int 0, .int 0, .int 0])), (q1, ct_ra ca 4 (fun _ => none))] H [] := hW
  refine ct_putF (t := 3) Cx hin cf_3 0 (Nat.le_of_ble_eq_true rfl) (am_w1 140 rfl) rfl rfl rfl rfl (Nat.le_of_ble_eq_true rfl) hW dX7_init_9 (fun H locs hW => ?_)
  have hW : ct_W D A s ((h0, .inr (6, [.ref q1, .int 0, .int 0, .int 0, .int 0])) :: (q1, ct_ra ca 4 (ct_f [])) :: ct_wp ca k0 []) H locs := hW
  refine lv_iconst (v := 0) Cx.1 Cx.2.1 dX7_init_12 (by decide) ?_
  refine lv_istore_n (lv' := [(1, .int (nI 0)), (0, .ref h0)]) Cx.1 Cx.2.1 dX7_init_13 rfl hl (by decide) rfl (fun ls hl => ?_)
  have key : ∀ j : Nat, ∀ (ps : List (Nat × Nat × Nat)) (H : Heap) (locs : List Loc) (ls : Array Slot), ps.length + j = 4 → ct_W D A s ((h0, .inr (6, [.ref q1, .int 0, .int 0, .int 0, .int 0])) :: (q1, ct_ra ca 4 (ct_f ps)) :: ct_wp ca k0 ps) H locs → lv_has ls 2 [(1, .int (nI ps.length)), (0, .ref h0)] → W p l e (ct_rm 3 13 84) s m #[Value.ref h0] below meth c H locs (1 + 3 * ps.length) (4 + 20 * ps.length) (MQ below (ct_Q D A ((fun h w => ∃ (a : Nat) (ps : List (Nat × Nat × Nat)), ps.length = 4 ∧ w = ct_wT ca k0 h a ps) h0)) #[Value.ref h0] s 13 84 A) (F0 m 14 ls []) := by
    intro j
    induction j with
    | zero =>
      intro ps H locs ls hps hW hl
      refine lv_iload_n Cx.1 Cx.2.1 dX7_init_14 rfl (lv_at hl 0 rfl) ?_
      refine lv_iconst (v := 4) Cx.1 Cx.2.1 dX7_init_15 (by decide) ?_
      refine lv_icmp_ge (tgt := 38) Cx.1 Cx.2.1 dX7_init_16 (by decide) (fun h => ?_) (fun h => ?_)
      · refine W.widen (k := 13) (n := 84) (by omega) (by omega) ?_
        exact ct_ret Cx hr hlk hW ⟨q1, ps, by omega, rfl⟩ dX7_init_38
      · exact absurd ((nI_leI (by decide) (by omega)).mpr (show 4 ≤ ps.length by omega)) h
    | succ j ih =>
      intro ps H locs ls hps hW hl
      refine lv_iload_n Cx.1 Cx.2.1 dX7_init_14 rfl (lv_at hl 0 rfl) ?_
      refine lv_iconst (v := 4) Cx.1 Cx.2.1 dX7_init_15 (by decide) ?_
      refine lv_icmp_ge (tgt := 38) Cx.1 Cx.2.1 dX7_init_16 (by decide) (fun h => ?_) (fun h => ?_)
      · exact absurd ((nI_leI (by decide) (by omega)).mp (show nI 4 ≤ nI ps.length from h)) (by omega)
      · refine lv_aload_n Cx.1 Cx.2.1 dX7_init_19 rfl (lv_at hl 1 rfl) ?_
        refine ct_get (t := 3) (fs := [.ref q1, .int 0, .int 0, .int 0, .int 0]) Cx cf_3 0 (Nat.le_of_ble_eq_true rfl) (am_w1 140 rfl) rfl hW dX7_init_20 ?_
        refine lv_iload_n Cx.1 Cx.2.1 dX7_init_23 rfl (lv_at hl 0 rfl) ?_
        refine ct_elem (w0 := [(h0, .inr (6, [.ref q1, .int 0, .int 0, .int 0, .int 0]))]) Cx (am_w1 78 rfl) (Or.inr ⟨"ServedAhead", am_w1 81 rfl⟩) (Nat.le_of_ble_eq_true rfl) (Nat.le_of_ble_eq_true rfl) hl.1 (show ps.length < 4 by omega) (by decide) hW (by show 1 + 3 * ps.length + 3 ≤ 13; omega) (by show 4 + 20 * ps.length + 20 ≤ 84; omega) dX7_init_24 dX7_init_27 dX7_init_28 dX7_init_31 (fun p1 H locs hW => ?_)
        have el : (ps ++ [p1]).length = ps.length + 1 := by rw [List.length_append]; rfl
        refine lv_iinc (k := 0) (v := nI (ps ++ [p1]).length) (lv' := [(1, .int (nI (ps ++ [p1]).length)), (0, .ref h0)]) Cx.1 Cx.2.1 dX7_init_32 hl rfl (by rw [el, show Int32.ofInt 1 = (1 : Int32) from by decide]; exact nI_1 _) (by decide) rfl (fun ls hl => ?_)
        refine lv_goto (tgt := 14) Cx.1 Cx.2.1 dX7_init_35 (by decide) ?_
        refine W.widen (k := 1 + 3 * (ps ++ [p1]).length) (n := 4 + 20 * (ps ++ [p1]).length) (by rw [el]; omega) (by rw [el]; omega) ?_
        exact ih (ps ++ [p1]) H locs ls (by rw [el]; omega) hW hl
  exact key 4 [] H locs ls rfl hW hl
set_option maxRecDepth 20000 in
theorem ct_X1 (l : Launch) (sz0 k0 : Nat) (ca : Nat → ClassId) (D : va_G) : ct_M l yX1_init cX1_init 2 3 22 147 1 [.null, .int 0, .int 0, .int 0, .int 0, .int 0] sz0 k0 ca D (fun h w => ∃ (a : Nat) (ps : List (Nat × Nat × Nat)), ps.length = 7 ∧ w = ct_wH ca k0 h a ps) := by
  refine ct_met (by decide) rfl (Nat.le_of_ble_eq_true rfl) (fun h0 p e s m below meth c A ls Cx hin hr hlk hW hl => ?_)
  have Cx : ct_Cx cX1_init 2 RX1 sz0 k0 ca D A p s m c := Cx
  refine lv_aload_n Cx.1 Cx.2.1 dX1_init_0 rfl (lv_at hl 0 rfl) ?_
  refine ct_oi Cx hl.1 (am_w1 167 rfl) (Nat.le_of_ble_eq_true rfl) (Nat.le_of_ble_eq_true rfl) dX1_init_1 ?_
  refine lv_aload_n Cx.1 Cx.2.1 dX1_init_4 rfl (lv_at hl 0 rfl) ?_
  refine lv_bipush (v := 7) Cx.1 Cx.2.1 dX1_init_5 (by decide) ?_
  refine ct_newq (N := 7) Cx (am_w1 168 rfl) hW (by decide) (by decide) (by decide) (Nat.le_of_ble_eq_true rfl) (Nat.le_of_ble_eq_true rfl) dX1_init_7 (fun q1 H hW => ?_)
  have hW : ct_W D A s [(h0, .inr (1, [.null, .int 0, .int 0, .int 0, .int 0, .int 0])), (q1, ct_ra ca 7 (fun _ => none))] H [] := hW
  refine ct_putF (t := 6) Cx hin cf_6 0 (Nat.le_of_ble_eq_true rfl) (am_w1 170 rfl) rfl rfl rfl rfl (Nat.le_of_ble_eq_true rfl) hW dX1_init_10 (fun H locs hW => ?_)
  have hW : ct_W D A s ((h0, .inr (1, [.ref q1, .int 0, .int 0, .int 0, .int 0, .int 0])) :: (q1, ct_ra ca 7 (ct_f [])) :: ct_wp ca k0 []) H locs := hW
  refine lv_iconst (v := 0) Cx.1 Cx.2.1 dX1_init_13 (by decide) ?_
  refine lv_istore_n (lv' := [(1, .int (nI 0)), (0, .ref h0)]) Cx.1 Cx.2.1 dX1_init_14 rfl hl (by decide) rfl (fun ls hl => ?_)
  have key : ∀ j : Nat, ∀ (ps : List (Nat × Nat × Nat)) (H : Heap) (locs : List Loc) (ls : Array Slot), ps.length + j = 7 → ct_W D A s ((h0, .inr (1, [.ref q1, .int 0, .int 0, .int 0, .int 0, .int 0])) :: (q1, ct_ra ca 7 (ct_f ps)) :: ct_wp ca k0 ps) H locs → lv_has ls 2 [(1, .int (nI ps.length)), (0, .ref h0)] → W p l e (ct_rm 3 22 147) s m #[Value.ref h0] below meth c H locs (1 + 3 * ps.length) (7 + 20 * ps.length) (MQ below (ct_Q D A ((fun h w => ∃ (a : Nat) (ps : List (Nat × Nat × Nat)), ps.length = 7 ∧ w = ct_wH ca k0 h a ps) h0)) #[Value.ref h0] s 22 147 A) (F0 m 15 ls []) := by
    intro j
    induction j with
    | zero =>
      intro ps H locs ls hps hW hl
      refine lv_iload_n Cx.1 Cx.2.1 dX1_init_15 rfl (lv_at hl 0 rfl) ?_
      refine lv_bipush (v := 6) Cx.1 Cx.2.1 dX1_init_16 (by decide) ?_
      refine lv_icmp_gt (tgt := 40) Cx.1 Cx.2.1 dX1_init_18 (by decide) (fun h => ?_) (fun h => ?_)
      · refine W.widen (k := 22) (n := 147) (by omega) (by omega) ?_
        exact ct_ret Cx hr hlk hW ⟨q1, ps, by omega, rfl⟩ dX1_init_40
      · exact absurd ((nI_ltI (by decide) (by omega)).mpr (show 6 < ps.length by omega)) h
    | succ j ih =>
      intro ps H locs ls hps hW hl
      refine lv_iload_n Cx.1 Cx.2.1 dX1_init_15 rfl (lv_at hl 0 rfl) ?_
      refine lv_bipush (v := 6) Cx.1 Cx.2.1 dX1_init_16 (by decide) ?_
      refine lv_icmp_gt (tgt := 40) Cx.1 Cx.2.1 dX1_init_18 (by decide) (fun h => ?_) (fun h => ?_)
      · exact absurd ((nI_ltI (by decide) (by omega)).mp (show nI 6 < nI ps.length from h)) (by omega)
      · refine lv_aload_n Cx.1 Cx.2.1 dX1_init_21 rfl (lv_at hl 1 rfl) ?_
        refine ct_get (t := 6) (fs := [.ref q1, .int 0, .int 0, .int 0, .int 0, .int 0]) Cx cf_6 0 (Nat.le_of_ble_eq_true rfl) (am_w1 170 rfl) rfl hW dX1_init_22 ?_
        refine lv_iload_n Cx.1 Cx.2.1 dX1_init_25 rfl (lv_at hl 0 rfl) ?_
        refine ct_elem (w0 := [(h0, .inr (1, [.ref q1, .int 0, .int 0, .int 0, .int 0, .int 0]))]) Cx (am_w1 168 rfl) (Or.inr ⟨"ServedAhead", am_w1 169 rfl⟩) (Nat.le_of_ble_eq_true rfl) (Nat.le_of_ble_eq_true rfl) hl.1 (show ps.length < 7 by omega) (by decide) hW (by show 1 + 3 * ps.length + 3 ≤ 22; omega) (by show 7 + 20 * ps.length + 20 ≤ 147; omega) dX1_init_26 dX1_init_29 dX1_init_30 dX1_init_33 (fun p1 H locs hW => ?_)
        have el : (ps ++ [p1]).length = ps.length + 1 := by rw [List.length_append]; rfl
        refine lv_iinc (k := 0) (v := nI (ps ++ [p1]).length) (lv' := [(1, .int (nI (ps ++ [p1]).length)), (0, .ref h0)]) Cx.1 Cx.2.1 dX1_init_34 hl rfl (by rw [el, show Int32.ofInt 1 = (1 : Int32) from by decide]; exact nI_1 _) (by decide) rfl (fun ls hl => ?_)
        refine lv_goto (tgt := 15) Cx.1 Cx.2.1 dX1_init_37 (by decide) ?_
        refine W.widen (k := 1 + 3 * (ps ++ [p1]).length) (n := 7 + 20 * (ps ++ [p1]).length) (by rw [el]; omega) (by rw [el]; omega) ?_
        exact ih (ps ++ [p1]) H locs ls (by rw [el]; omega) hW hl
  exact key 7 [] H locs ls rfl hW hl
set_option maxRecDepth 20000 in
theorem ct_X4 (l : Launch) (sz0 k0 : Nat) (ca : Nat → ClassId) (D : va_G) : ct_M l yX4_init cX4_init 2 3 17 110 3 [.null, .null, .int 0, .int 0, .int 0, .int 0, .int 0] sz0 k0 ca D (fun h w => ∃ (b a : Nat) (ps : List (Nat × Nat × Nat)), ps.length = 5 ∧ w = ct_wD ca k0 h b a ps) := by
  refine ct_met (by decide) rfl (Nat.le_of_ble_eq_true rfl) (fun h0 p e s m below meth c A ls Cx hin hr hlk hW hl => ?_)
  have Cx : ct_Cx cX4_init 2 RX4 sz0 k0 ca D A p s m c := Cx
  refine lv_aload_n Cx.1 Cx.2.1 dX4_init_0 rfl (lv_at hl 0 rfl) ?_
  refine ct_oi Cx hl.1 (am_w1 196 rfl) (Nat.le_of_ble_eq_true rfl) (Nat.le_of_ble_eq_true rfl) dX4_init_1 ?_
  refine lv_aload_n Cx.1 Cx.2.1 dX4_init_4 rfl (lv_at hl 0 rfl) ?_
  refine lv_iconst (v := 5) Cx.1 Cx.2.1 dX4_init_5 (by decide) ?_
  refine ct_newi (N := 5) Cx hW (by decide) (by decide) (by decide) (Nat.le_of_ble_eq_true rfl) (Nat.le_of_ble_eq_true rfl) dX4_init_6 (fun q0 H hW => ?_)
  have hW : ct_W D A s [(h0, .inr (3, [.null, .null, .int 0, .int 0, .int 0, .int 0, .int 0])), (q0, ct_ia ca 5)] H [] := hW
  refine ct_putF (t := 7) Cx hin cf_7 0 (Nat.le_of_ble_eq_true rfl) (am_w1 199 rfl) rfl rfl rfl rfl (Nat.le_of_ble_eq_true rfl) hW dX4_init_8 (fun H locs hW => ?_)
  have hW : ct_W D A s [(h0, .inr (3, [.ref q0, .null, .int 0, .int 0, .int 0, .int 0, .int 0])), (q0, ct_ia ca 5)] H locs := hW
  refine lv_aload_n Cx.1 Cx.2.1 dX4_init_11 rfl (lv_at hl 0 rfl) ?_
  refine lv_iconst (v := 5) Cx.1 Cx.2.1 dX4_init_12 (by decide) ?_
  refine ct_newq (N := 5) Cx (am_w1 197 rfl) hW (by decide) (by decide) (by decide) (Nat.le_of_ble_eq_true rfl) (Nat.le_of_ble_eq_true rfl) dX4_init_13 (fun q1 H hW => ?_)
  have hW : ct_W D A s [(h0, .inr (3, [.ref q0, .null, .int 0, .int 0, .int 0, .int 0, .int 0])), (q0, ct_ia ca 5), (q1, ct_ra ca 5 (fun _ => none))] H locs := hW
  refine ct_putF (t := 7) Cx hin cf_7 1 (Nat.le_of_ble_eq_true rfl) (am_w1 200 rfl) rfl rfl rfl rfl (Nat.le_of_ble_eq_true rfl) hW dX4_init_16 (fun H locs hW => ?_)
  have hW : ct_W D A s ((h0, .inr (3, [.ref q0, .ref q1, .int 0, .int 0, .int 0, .int 0, .int 0])) :: (q0, ct_ia ca 5) :: (q1, ct_ra ca 5 (ct_f [])) :: ct_wp ca k0 []) H locs := hW
  refine lv_iconst (v := 0) Cx.1 Cx.2.1 dX4_init_19 (by decide) ?_
  refine lv_istore_n (lv' := [(1, .int (nI 0)), (0, .ref h0)]) Cx.1 Cx.2.1 dX4_init_20 rfl hl (by decide) rfl (fun ls hl => ?_)
  have key : ∀ j : Nat, ∀ (ps : List (Nat × Nat × Nat)) (H : Heap) (locs : List Loc) (ls : Array Slot), ps.length + j = 5 → ct_W D A s ((h0, .inr (3, [.ref q0, .ref q1, .int 0, .int 0, .int 0, .int 0, .int 0])) :: (q0, ct_ia ca 5) :: (q1, ct_ra ca 5 (ct_f ps)) :: ct_wp ca k0 ps) H locs → lv_has ls 2 [(1, .int (nI ps.length)), (0, .ref h0)] → W p l e (ct_rm 3 17 110) s m #[Value.ref h0] below meth c H locs (2 + 3 * ps.length) (10 + 20 * ps.length) (MQ below (ct_Q D A ((fun h w => ∃ (b a : Nat) (ps : List (Nat × Nat × Nat)), ps.length = 5 ∧ w = ct_wD ca k0 h b a ps) h0)) #[Value.ref h0] s 17 110 A) (F0 m 21 ls []) := by
    intro j
    induction j with
    | zero =>
      intro ps H locs ls hps hW hl
      refine lv_iload_n Cx.1 Cx.2.1 dX4_init_21 rfl (lv_at hl 0 rfl) ?_
      refine lv_iconst (v := 5) Cx.1 Cx.2.1 dX4_init_22 (by decide) ?_
      refine lv_icmp_ge (tgt := 45) Cx.1 Cx.2.1 dX4_init_23 (by decide) (fun h => ?_) (fun h => ?_)
      · refine W.widen (k := 17) (n := 110) (by omega) (by omega) ?_
        exact ct_ret Cx hr hlk hW ⟨q0, q1, ps, by omega, rfl⟩ dX4_init_45
      · exact absurd ((nI_leI (by decide) (by omega)).mpr (show 5 ≤ ps.length by omega)) h
    | succ j ih =>
      intro ps H locs ls hps hW hl
      refine lv_iload_n Cx.1 Cx.2.1 dX4_init_21 rfl (lv_at hl 0 rfl) ?_
      refine lv_iconst (v := 5) Cx.1 Cx.2.1 dX4_init_22 (by decide) ?_
      refine lv_icmp_ge (tgt := 45) Cx.1 Cx.2.1 dX4_init_23 (by decide) (fun h => ?_) (fun h => ?_)
      · exact absurd ((nI_leI (by decide) (by omega)).mp (show nI 5 ≤ nI ps.length from h)) (by omega)
      · refine lv_aload_n Cx.1 Cx.2.1 dX4_init_26 rfl (lv_at hl 1 rfl) ?_
        refine ct_get (t := 7) (fs := [.ref q0, .ref q1, .int 0, .int 0, .int 0, .int 0, .int 0]) Cx cf_7 1 (Nat.le_of_ble_eq_true rfl) (am_w1 200 rfl) rfl hW dX4_init_27 ?_
        refine lv_iload_n Cx.1 Cx.2.1 dX4_init_30 rfl (lv_at hl 0 rfl) ?_
        refine ct_elem (w0 := [(h0, .inr (3, [.ref q0, .ref q1, .int 0, .int 0, .int 0, .int 0, .int 0])), (q0, ct_ia ca 5)]) Cx (am_w1 197 rfl) (Or.inr ⟨"ServedAhead", am_w1 198 rfl⟩) (Nat.le_of_ble_eq_true rfl) (Nat.le_of_ble_eq_true rfl) hl.1 (show ps.length < 5 by omega) (by decide) hW (by show 2 + 3 * ps.length + 3 ≤ 17; omega) (by show 10 + 20 * ps.length + 20 ≤ 110; omega) dX4_init_31 dX4_init_34 dX4_init_35 dX4_init_38 (fun p1 H locs hW => ?_)
        have el : (ps ++ [p1]).length = ps.length + 1 := by rw [List.length_append]; rfl
        refine lv_iinc (k := 0) (v := nI (ps ++ [p1]).length) (lv' := [(1, .int (nI (ps ++ [p1]).length)), (0, .ref h0)]) Cx.1 Cx.2.1 dX4_init_39 hl rfl (by rw [el, show Int32.ofInt 1 = (1 : Int32) from by decide]; exact nI_1 _) (by decide) rfl (fun ls hl => ?_)
        refine lv_goto (tgt := 21) Cx.1 Cx.2.1 dX4_init_42 (by decide) ?_
        refine W.widen (k := 2 + 3 * (ps ++ [p1]).length) (n := 10 + 20 * (ps ++ [p1]).length) (by rw [el]; omega) (by rw [el]; omega) ?_
        exact ih (ps ++ [p1]) H locs ls (by rw [el]; omega) hW hl
  exact key 5 [] H locs ls rfl hW hl
