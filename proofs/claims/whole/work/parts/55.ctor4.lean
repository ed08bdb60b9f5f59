/-! CONSTRUCTORS: ServedAhead -/
def ct_wS (ca : Nat → ClassId) (k0 h : Nat) (pg a b : Nat) (gq : Nat × Nat × Nat) (st : Nat) (sq : Nat × Nat × Nat) (t0 a0 : Nat) (p0 : List (Nat × Nat × Nat)) (t1 a1 : Nat) (p1 : List (Nat × Nat × Nat)) (t2 a2 : Nat) (p2 : List (Nat × Nat × Nat)) (sp : Nat × Nat × Nat) (hu ah : Nat) (ph : List (Nat × Nat × Nat)) (le lb la : Nat) (pl : List (Nat × Nat × Nat)) : va_W := (h, .inr (7, [.ref pg, .ref st, .ref t0, .ref t1, .ref t2, .ref sp.1, .ref hu, .ref le, .int 0, .int 0, .int 0, .int 0])) :: (ct_wG ca pg a b gq ++ ct_wL ca st sq ++ ct_wT ca k0 t0 a0 p0 ++ ct_wT ca k0 t1 a1 p1 ++ ct_wT ca k0 t2 a2 p2 ++ ct_ps ca k0 sp ++ ct_wH ca k0 hu ah ph ++ ct_wD ca k0 le lb la pl)
def ct_XS (ca : Nat → ClassId) (k0 h : Nat) (w : va_W) : Prop := ∃ (pg a b : Nat) (gq : Nat × Nat × Nat) (st : Nat) (sq : Nat × Nat × Nat) (t0 a0 : Nat) (p0 : List (Nat × Nat × Nat)) (t1 a1 : Nat) (p1 : List (Nat × Nat × Nat)) (t2 a2 : Nat) (p2 : List (Nat × Nat × Nat)) (sp : Nat × Nat × Nat) (hu ah : Nat) (ph : List (Nat × Nat × Nat)) (le lb la : Nat) (pl : List (Nat × Nat × Nat)), p0.length = 4 ∧ p1.length = 4 ∧ p2.length = 4 ∧ ph.length = 7 ∧ pl.length = 5 ∧ w = ct_wS ca k0 h pg a b gq st sq t0 a0 p0 t1 a1 p1 t2 a2 p2 sp hu ah ph le lb la pl
set_option maxRecDepth 20000 in
theorem ct_X8 (l : Launch) (sz0 k0 : Nat) (ca : Nat → ClassId) (D : va_G) : ct_M l yX8_init cX8_init 1 4 96 624 7 [.null, .null, .null, .null, .null, .null, .null, .null, .int 0, .int 0, .int 0, .int 0] sz0 k0 ca D (ct_XS ca k0) := by
  refine ct_met (by decide) rfl (Nat.le_of_ble_eq_true rfl) (fun h0 p e s m below meth c A ls Cx hin hr hlk hW hl => ?_)
  have Cx : ct_Cx cX8_init 1 RX8 sz0 k0 ca D A p s m c := Cx
  refine lv_aload_n Cx.1 Cx.2.1 dX8_init_0 rfl (lv_at hl 0 rfl) ?_
  refine ct_oi Cx hl.1 (am_w1 18 rfl) (Nat.le_of_ble_eq_true rfl) (Nat.le_of_ble_eq_true rfl) dX8_init_1 ?_
  refine lv_aload_n Cx.1 Cx.2.1 dX8_init_4 rfl (lv_at hl 0 rfl) ?_
  refine ct_new (t := 1) (fs := [.null, .null, .int 0, .int 0, .int 0]) Cx cf_1 df_X5 (am_w1 21 rfl) (am_w1 22 rfl) (am_w1 2 rfl) hW (Nat.le_of_ble_eq_true rfl) (Nat.le_of_ble_eq_true rfl) dX8_init_5 (fun pg H hW => ?_)
  refine lv_dup Cx.1 Cx.2.1 dX8_init_8 rfl ?_
  refine ct_call (ws := ((h0, .inr (7, [.null, .null, .null, .null, .null, .null, .null, .null, .int 0, .int 0, .int 0, .int 0])) :: ([]))) (q := pg) Cx (ct_X5 l sz0 k0 ca D) mo_X5_init rfl (am_w1 24 rfl) (Or.inr ⟨"ServedAhead", am_w1 23 rfl⟩) (Nat.le_of_ble_eq_true rfl) (Nat.le_of_ble_eq_true rfl) hl.1 (Nat.le_of_ble_eq_true rfl) hW (Nat.le_of_ble_eq_true rfl) (Nat.le_of_ble_eq_true rfl) dX8_init_9 (fun w1 H locs hX hW => ?_)
  obtain ⟨a, b, gq, rfl⟩ := hX
  have hW : ct_W D A s ((h0, .inr (7, [.null, .null, .null, .null, .null, .null, .null, .null, .int 0, .int 0, .int 0, .int 0])) :: (ct_wG ca pg a b gq)) H locs := hW
  refine ct_putF (t := 0) Cx hin cf_0 0 (Nat.le_of_ble_eq_true rfl) (am_w1 225 rfl) rfl rfl rfl rfl (Nat.le_of_ble_eq_true rfl) hW dX8_init_12 (fun H locs hW => ?_)
  have hW : ct_W D A s ((h0, .inr (7, [.ref pg, .null, .null, .null, .null, .null, .null, .null, .int 0, .int 0, .int 0, .int 0])) :: (ct_wG ca pg a b gq)) H locs := hW
  refine lv_aload_n Cx.1 Cx.2.1 dX8_init_15 rfl (lv_at hl 0 rfl) ?_
  refine ct_new (t := 2) (fs := [.null, .null, .null, .int 0]) Cx cf_2 df_X3 (am_w1 70 rfl) (am_w1 28 rfl) (am_w1 3 rfl) hW (Nat.le_of_ble_eq_true rfl) (Nat.le_of_ble_eq_true rfl) dX8_init_16 (fun st H hW => ?_)
  refine lv_dup Cx.1 Cx.2.1 dX8_init_19 rfl ?_
  refine ct_call (ws := ((h0, .inr (7, [.ref pg, .null, .null, .null, .null, .null, .null, .null, .int 0, .int 0, .int 0, .int 0])) :: (ct_wG ca pg a b gq))) (q := st) Cx (ct_X3 l sz0 k0 ca D) mo_X3_init rfl (am_w1 30 rfl) (Or.inr ⟨"ServedAhead", am_w1 71 rfl⟩) (Nat.le_of_ble_eq_true rfl) (Nat.le_of_ble_eq_true rfl) hl.1 (Nat.le_of_ble_eq_true rfl) hW (Nat.le_of_ble_eq_true rfl) (Nat.le_of_ble_eq_true rfl) dX8_init_20 (fun w1 H locs hX hW => ?_)
  obtain ⟨sq, rfl⟩ := hX
  have hW : ct_W D A s ((h0, .inr (7, [.ref pg, .null, .null, .null, .null, .null, .null, .null, .int 0, .int 0, .int 0, .int 0])) :: (ct_wG ca pg a b gq ++ ct_wL ca st sq)) H locs := hW
  refine ct_putF (t := 0) Cx hin cf_0 1 (Nat.le_of_ble_eq_true rfl) (am_w1 226 rfl) rfl rfl rfl rfl (Nat.le_of_ble_eq_true rfl) hW dX8_init_23 (fun H locs hW => ?_)
  have hW : ct_W D A s ((h0, .inr (7, [.ref pg, .ref st, .null, .null, .null, .null, .null, .null, .int 0, .int 0, .int 0, .int 0])) :: (ct_wG ca pg a b gq ++ ct_wL ca st sq)) H locs := hW
  refine lv_aload_n Cx.1 Cx.2.1 dX8_init_26 rfl (lv_at hl 0 rfl) ?_
  refine ct_new (t := 3) (fs := [.null, .int 0, .int 0, .int 0, .int 0]) Cx cf_3 df_X7 (am_w1 72 rfl) (am_w1 73 rfl) (am_w1 4 rfl) hW (Nat.le_of_ble_eq_true rfl) (Nat.le_of_ble_eq_true rfl) dX8_init_27 (fun t0 H hW => ?_)
  refine lv_dup Cx.1 Cx.2.1 dX8_init_30 rfl ?_
  refine ct_call (ws := ((h0, .inr (7, [.ref pg, .ref st, .null, .null, .null, .null, .null, .null, .int 0, .int 0, .int 0, .int 0])) :: (ct_wG ca pg a b gq ++ ct_wL ca st sq))) (q := t0) Cx (ct_X7 l sz0 k0 ca D) mo_X7_init rfl (am_w1 75 rfl) (Or.inl (am_w1 74 rfl)) (Nat.le_of_ble_eq_true rfl) (Nat.le_of_ble_eq_true rfl) hl.1 (Nat.le_of_ble_eq_true rfl) hW (Nat.le_of_ble_eq_true rfl) (Nat.le_of_ble_eq_true rfl) dX8_init_31 (fun w1 H locs hX hW => ?_)
  obtain ⟨a0, p0, hp0, rfl⟩ := hX
  have hW : ct_W D A s ((h0, .inr (7, [.ref pg, .ref st, .null, .null, .null, .null, .null, .null, .int 0, .int 0, .int 0, .int 0])) :: (ct_wG ca pg a b gq ++ ct_wL ca st sq ++ ct_wT ca k0 t0 a0 p0)) H locs := hW
  refine ct_putF (t := 0) Cx hin cf_0 2 (Nat.le_of_ble_eq_true rfl) (am_w1 227 rfl) rfl rfl rfl rfl (Nat.le_of_ble_eq_true rfl) hW dX8_init_34 (fun H locs hW => ?_)
  have hW : ct_W D A s ((h0, .inr (7, [.ref pg, .ref st, .ref t0, .null, .null, .null, .null, .null, .int 0, .int 0, .int 0, .int 0])) :: (ct_wG ca pg a b gq ++ ct_wL ca st sq ++ ct_wT ca k0 t0 a0 p0)) H locs := hW
  refine lv_aload_n Cx.1 Cx.2.1 dX8_init_37 rfl (lv_at hl 0 rfl) ?_
  refine ct_new (t := 3) (fs := [.null, .int 0, .int 0, .int 0, .int 0]) Cx cf_3 df_X7 (am_w1 72 rfl) (am_w1 73 rfl) (am_w1 4 rfl) hW (Nat.le_of_ble_eq_true rfl) (Nat.le_of_ble_eq_true rfl) dX8_init_38 (fun t1 H hW => ?_)
  refine lv_dup Cx.1 Cx.2.1 dX8_init_41 rfl ?_
  refine ct_call (ws := ((h0, .inr (7, [.ref pg, .ref st, .ref t0, .null, .null, .null, .null, .null, .int 0, .int 0, .int 0, .int 0])) :: (ct_wG ca pg a b gq ++ ct_wL ca st sq ++ ct_wT ca k0 t0 a0 p0))) (q := t1) Cx (ct_X7 l sz0 k0 ca D) mo_X7_init rfl (am_w1 75 rfl) (Or.inl (am_w1 74 rfl)) (Nat.le_of_ble_eq_true rfl) (Nat.le_of_ble_eq_true rfl) hl.1 (Nat.le_of_ble_eq_true rfl) hW (Nat.le_of_ble_eq_true rfl) (Nat.le_of_ble_eq_true rfl) dX8_init_42 (fun w1 H locs hX hW => ?_)
  obtain ⟨a1, p1, hp1, rfl⟩ := hX
  have hW : ct_W D A s ((h0, .inr (7, [.ref pg, .ref st, .ref t0, .null, .null, .null, .null, .null, .int 0, .int 0, .int 0, .int 0])) :: (ct_wG ca pg a b gq ++ ct_wL ca st sq ++ ct_wT ca k0 t0 a0 p0 ++ ct_wT ca k0 t1 a1 p1)) H locs := hW
  refine ct_putF (t := 0) Cx hin cf_0 3 (Nat.le_of_ble_eq_true rfl) (am_w1 228 rfl) rfl rfl rfl rfl (Nat.le_of_ble_eq_true rfl) hW dX8_init_45 (fun H locs hW => ?_)
  have hW : ct_W D A s ((h0, .inr (7, [.ref pg, .ref st, .ref t0, .ref t1, .null, .null, .null, .null, .int 0, .int 0, .int 0, .int 0])) :: (ct_wG ca pg a b gq ++ ct_wL ca st sq ++ ct_wT ca k0 t0 a0 p0 ++ ct_wT ca k0 t1 a1 p1)) H locs := hW
  refine lv_aload_n Cx.1 Cx.2.1 dX8_init_48 rfl (lv_at hl 0 rfl) ?_
  refine ct_new (t := 3) (fs := [.null, .int 0, .int 0, .int 0, .int 0]) Cx cf_3 df_X7 (am_w1 72 rfl) (am_w1 73 rfl) (am_w1 4 rfl) hW (Nat.le_of_ble_eq_true rfl) (Nat.le_of_ble_eq_true rfl) dX8_init_49 (fun t2 H hW => ?_)
  refine lv_dup Cx.1 Cx.2.1 dX8_init_52 rfl ?_
  refine ct_call (ws := ((h0, .inr (7, [.ref pg, .ref st, .ref t0, .ref t1, .null, .null, .null, .null, .int 0, .int 0, .int 0, .int 0])) :: (ct_wG ca pg a b gq ++ ct_wL ca st sq ++ ct_wT ca k0 t0 a0 p0 ++ ct_wT ca k0 t1 a1 p1))) (q := t2) Cx (ct_X7 l sz0 k0 ca D) mo_X7_init rfl (am_w1 75 rfl) (Or.inl (am_w1 74 rfl)) (Nat.le_of_ble_eq_true rfl) (Nat.le_of_ble_eq_true rfl) hl.1 (Nat.le_of_ble_eq_true rfl) hW (Nat.le_of_ble_eq_true rfl) (Nat.le_of_ble_eq_true rfl) dX8_init_53 (fun w1 H locs hX hW => ?_)
  obtain ⟨a2, p2, hp2, rfl⟩ := hX
  have hW : ct_W D A s ((h0, .inr (7, [.ref pg, .ref st, .ref t0, .ref t1, .null, .null, .null, .null, .int 0, .int 0, .int 0, .int 0])) :: (ct_wG ca pg a b gq ++ ct_wL ca st sq ++ ct_wT ca k0 t0 a0 p0 ++ ct_wT ca k0 t1 a1 p1 ++ ct_wT ca k0 t2 a2 p2)) H locs := hW
  refine ct_putF (t := 0) Cx hin cf_0 4 (Nat.le_of_ble_eq_true rfl) (am_w1 229 rfl) rfl rfl rfl rfl (Nat.le_of_ble_eq_true rfl) hW dX8_init_56 (fun H locs hW => ?_)
  have hW : ct_W D A s ((h0, .inr (7, [.ref pg, .ref st, .ref t0, .ref t1, .ref t2, .null, .null, .null, .int 0, .int 0, .int 0, .int 0])) :: (ct_wG ca pg a b gq ++ ct_wL ca st sq ++ ct_wT ca k0 t0 a0 p0 ++ ct_wT ca k0 t1 a1 p1 ++ ct_wT ca k0 t2 a2 p2)) H locs := hW
  refine lv_aload_n Cx.1 Cx.2.1 dX8_init_59 rfl (lv_at hl 0 rfl) ?_
  refine ct_new (t := 4) (fs := [.null, .null, .int 0, .int 0, .int 0, .int 0]) Cx cf_4 df_X6 (am_w1 160 rfl) (am_w1 80 rfl) (am_w1 5 rfl) hW (Nat.le_of_ble_eq_true rfl) (Nat.le_of_ble_eq_true rfl) dX8_init_60 (fun sp H hW => ?_)
  refine lv_dup Cx.1 Cx.2.1 dX8_init_63 rfl ?_
  refine ct_call (ws := ((h0, .inr (7, [.ref pg, .ref st, .ref t0, .ref t1, .ref t2, .null, .null, .null, .int 0, .int 0, .int 0, .int 0])) :: (ct_wG ca pg a b gq ++ ct_wL ca st sq ++ ct_wT ca k0 t0 a0 p0 ++ ct_wT ca k0 t1 a1 p1 ++ ct_wT ca k0 t2 a2 p2))) (q := sp) Cx (ct_X6 l sz0 k0 ca D) mo_X6_init rfl (am_w1 82 rfl) (Or.inr ⟨"ServedAhead", am_w1 161 rfl⟩) (Nat.le_of_ble_eq_true rfl) (Nat.le_of_ble_eq_true rfl) hl.1 (Nat.le_of_ble_eq_true rfl) hW (Nat.le_of_ble_eq_true rfl) (Nat.le_of_ble_eq_true rfl) dX8_init_64 (fun w1 H locs hX hW => ?_)
  obtain ⟨sc, sr, rfl⟩ := hX
  have hW : ct_W D A s ((h0, .inr (7, [.ref pg, .ref st, .ref t0, .ref t1, .ref t2, .null, .null, .null, .int 0, .int 0, .int 0, .int 0])) :: (ct_wG ca pg a b gq ++ ct_wL ca st sq ++ ct_wT ca k0 t0 a0 p0 ++ ct_wT ca k0 t1 a1 p1 ++ ct_wT ca k0 t2 a2 p2 ++ ct_ps ca k0 (sp, sc, sr))) H locs := hW
  refine ct_putF (t := 0) Cx hin cf_0 5 (Nat.le_of_ble_eq_true rfl) (am_w1 230 rfl) rfl rfl rfl rfl (Nat.le_of_ble_eq_true rfl) hW dX8_init_67 (fun H locs hW => ?_)
  have hW : ct_W D A s ((h0, .inr (7, [.ref pg, .ref st, .ref t0, .ref t1, .ref t2, .ref sp, .null, .null, .int 0, .int 0, .int 0, .int 0])) :: (ct_wG ca pg a b gq ++ ct_wL ca st sq ++ ct_wT ca k0 t0 a0 p0 ++ ct_wT ca k0 t1 a1 p1 ++ ct_wT ca k0 t2 a2 p2 ++ ct_ps ca k0 (sp, sc, sr))) H locs := hW
  refine lv_aload_n Cx.1 Cx.2.1 dX8_init_70 rfl (lv_at hl 0 rfl) ?_
  refine ct_new (t := 6) (fs := [.null, .int 0, .int 0, .int 0, .int 0, .int 0]) Cx cf_6 df_X1 (am_w1 162 rfl) (am_w1 163 rfl) (am_w1 9 rfl) hW (Nat.le_of_ble_eq_true rfl) (Nat.le_of_ble_eq_true rfl) dX8_init_71 (fun hu H hW => ?_)
  refine lv_dup Cx.1 Cx.2.1 dX8_init_74 rfl ?_
  refine ct_call (ws := ((h0, .inr (7, [.ref pg, .ref st, .ref t0, .ref t1, .ref t2, .ref sp, .null, .null, .int 0, .int 0, .int 0, .int 0])) :: (ct_wG ca pg a b gq ++ ct_wL ca st sq ++ ct_wT ca k0 t0 a0 p0 ++ ct_wT ca k0 t1 a1 p1 ++ ct_wT ca k0 t2 a2 p2 ++ ct_ps ca k0 (sp, sc, sr)))) (q := hu) Cx (ct_X1 l sz0 k0 ca D) mo_X1_init rfl (am_w1 165 rfl) (Or.inl (am_w1 164 rfl)) (Nat.le_of_ble_eq_true rfl) (Nat.le_of_ble_eq_true rfl) hl.1 (Nat.le_of_ble_eq_true rfl) hW (Nat.le_of_ble_eq_true rfl) (Nat.le_of_ble_eq_true rfl) dX8_init_75 (fun w1 H locs hX hW => ?_)
  obtain ⟨ah, ph, hph, rfl⟩ := hX
  have hW : ct_W D A s ((h0, .inr (7, [.ref pg, .ref st, .ref t0, .ref t1, .ref t2, .ref sp, .null, .null, .int 0, .int 0, .int 0, .int 0])) :: (ct_wG ca pg a b gq ++ ct_wL ca st sq ++ ct_wT ca k0 t0 a0 p0 ++ ct_wT ca k0 t1 a1 p1 ++ ct_wT ca k0 t2 a2 p2 ++ ct_ps ca k0 (sp, sc, sr) ++ ct_wH ca k0 hu ah ph)) H locs := hW
  refine ct_putF (t := 0) Cx hin cf_0 6 (Nat.le_of_ble_eq_true rfl) (am_w1 231 rfl) rfl rfl rfl rfl (Nat.le_of_ble_eq_true rfl) hW dX8_init_78 (fun H locs hW => ?_)
  have hW : ct_W D A s ((h0, .inr (7, [.ref pg, .ref st, .ref t0, .ref t1, .ref t2, .ref sp, .ref hu, .null, .int 0, .int 0, .int 0, .int 0])) :: (ct_wG ca pg a b gq ++ ct_wL ca st sq ++ ct_wT ca k0 t0 a0 p0 ++ ct_wT ca k0 t1 a1 p1 ++ ct_wT ca k0 t2 a2 p2 ++ ct_ps ca k0 (sp, sc, sr) ++ ct_wH ca k0 hu ah ph)) H locs := hW
  refine lv_aload_n Cx.1 Cx.2.1 dX8_init_81 rfl (lv_at hl 0 rfl) ?_
  refine ct_new (t := 7) (fs := [.null, .null, .int 0, .int 0, .int 0, .int 0, .int 0]) Cx cf_7 df_X4 (am_w1 191 rfl) (am_w1 192 rfl) (am_w1 10 rfl) hW (Nat.le_of_ble_eq_true rfl) (Nat.le_of_ble_eq_true rfl) dX8_init_82 (fun le H hW => ?_)
  refine lv_dup Cx.1 Cx.2.1 dX8_init_85 rfl ?_
  refine ct_call (ws := ((h0, .inr (7, [.ref pg, .ref st, .ref t0, .ref t1, .ref t2, .ref sp, .ref hu, .null, .int 0, .int 0, .int 0, .int 0])) :: (ct_wG ca pg a b gq ++ ct_wL ca st sq ++ ct_wT ca k0 t0 a0 p0 ++ ct_wT ca k0 t1 a1 p1 ++ ct_wT ca k0 t2 a2 p2 ++ ct_ps ca k0 (sp, sc, sr) ++ ct_wH ca k0 hu ah ph))) (q := le) Cx (ct_X4 l sz0 k0 ca D) mo_X4_init rfl (am_w1 194 rfl) (Or.inl (am_w1 193 rfl)) (Nat.le_of_ble_eq_true rfl) (Nat.le_of_ble_eq_true rfl) hl.1 (Nat.le_of_ble_eq_true rfl) hW (Nat.le_of_ble_eq_true rfl) (Nat.le_of_ble_eq_true rfl) dX8_init_86 (fun w1 H locs hX hW => ?_)
  obtain ⟨lb, la, pl, hpl, rfl⟩ := hX
  have hW : ct_W D A s ((h0, .inr (7, [.ref pg, .ref st, .ref t0, .ref t1, .ref t2, .ref sp, .ref hu, .null, .int 0, .int 0, .int 0, .int 0])) :: (ct_wG ca pg a b gq ++ ct_wL ca st sq ++ ct_wT ca k0 t0 a0 p0 ++ ct_wT ca k0 t1 a1 p1 ++ ct_wT ca k0 t2 a2 p2 ++ ct_ps ca k0 (sp, sc, sr) ++ ct_wH ca k0 hu ah ph ++ ct_wD ca k0 le lb la pl)) H locs := hW
  refine ct_putF (t := 0) Cx hin cf_0 7 (Nat.le_of_ble_eq_true rfl) (am_w1 232 rfl) rfl rfl rfl rfl (Nat.le_of_ble_eq_true rfl) hW dX8_init_89 (fun H locs hW => ?_)
  have hW : ct_W D A s ((h0, .inr (7, [.ref pg, .ref st, .ref t0, .ref t1, .ref t2, .ref sp, .ref hu, .ref le, .int 0, .int 0, .int 0, .int 0])) :: (ct_wG ca pg a b gq ++ ct_wL ca st sq ++ ct_wT ca k0 t0 a0 p0 ++ ct_wT ca k0 t1 a1 p1 ++ ct_wT ca k0 t2 a2 p2 ++ ct_ps ca k0 (sp, sc, sr) ++ ct_wH ca k0 hu ah ph ++ ct_wD ca k0 le lb la pl)) H locs := hW
  exact ct_ret Cx hr hlk hW ⟨pg, a, b, gq, st, sq, t0, a0, p0, t1, a1, p1, t2, a2, p2, (sp, sc, sr), hu, ah, ph, le, lb, la, pl, hp0, hp1, hp2, hph, hpl, rfl⟩ dX8_init_92
