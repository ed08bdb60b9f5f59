/-! CONSTRUCTORS: Credits, Law, Person, Page -/
section CTS
variable {p : Program} {l : Launch} {e : Env} {R : Room} {s : State} {m : MethodId} {args : Array Value} {below : List Frame} {meth : Method} {c : Code} {H : Heap} {locs : List Loc} {nc ns : Nat} {Q : State → Prop} {ls : Array Slot} {rest : List Value} {pc : Nat}
variable {cc : ByteArray} {nL : Nat} {own : String} {sz0 k0 : Nat} {ca : Nat → ClassId} {D : va_G} {A : Nat → Prop} {ws : va_W} {index : Nat}
theorem ct_gs (Cx : ct_Cx cc nL own sz0 k0 ca D A p s m c) (hw : Cond.fieldLink own index "ServedAhead$Kind" "PERSON" "LServedAhead$Kind;" ∈ lw_tbl) (hW : ct_W D A s ws H locs) (hd : decode cc pc = .ok (.getstatic index, 3)) (kk : W p l e R s m args below meth c H locs nc ns Q (F0 m (pc + 3) ls (.ref k0 :: rest))) : W p l e R s m args below meth c H locs nc ns Q (F0 m pc ls rest) := by
  obtain ⟨hx, hb, hml, hown, hen, hZ, hK, hA, hA0⟩ := Cx
  exact va_gets hx hb (va_Z.narrow hZ hA0) hW.2.2 hown (am_use hen.1 hw rfl) (fun _ h => h) hd kk
end CTS
theorem df_X0 : ∀ j, j < am_nf 5 → defaultValue (tyX0 j) = vp_V [.null, .int 0] j := by
  intro j hj
  have hj : j < 2 := hj
  rcases (show j = 0 ∨ j = 1 by omega) with rfl | rfl <;> rfl
theorem df_X1 : ∀ j, j < am_nf 6 → defaultValue (tyX1 j) = vp_V [.null, .int 0, .int 0, .int 0, .int 0, .int 0] j := by
  intro j hj
  have hj : j < 6 := hj
  rcases (show j = 0 ∨ j = 1 ∨ j = 2 ∨ j = 3 ∨ j = 4 ∨ j = 5 by omega) with rfl | rfl | rfl | rfl | rfl | rfl <;> rfl
theorem df_X3 : ∀ j, j < am_nf 2 → defaultValue (tyX3 j) = vp_V [.null, .null, .null, .int 0] j := by
  intro j hj
  have hj : j < 4 := hj
  rcases (show j = 0 ∨ j = 1 ∨ j = 2 ∨ j = 3 by omega) with rfl | rfl | rfl | rfl <;> rfl
theorem df_X4 : ∀ j, j < am_nf 7 → defaultValue (tyX4 j) = vp_V [.null, .null, .int 0, .int 0, .int 0, .int 0, .int 0] j := by
  intro j hj
  have hj : j < 7 := hj
  rcases (show j = 0 ∨ j = 1 ∨ j = 2 ∨ j = 3 ∨ j = 4 ∨ j = 5 ∨ j = 6 by omega) with rfl | rfl | rfl | rfl | rfl | rfl | rfl <;> rfl
theorem df_X5 : ∀ j, j < am_nf 1 → defaultValue (tyX5 j) = vp_V [.null, .null, .int 0, .int 0, .int 0] j := by
  intro j hj
  have hj : j < 5 := hj
  rcases (show j = 0 ∨ j = 1 ∨ j = 2 ∨ j = 3 ∨ j = 4 by omega) with rfl | rfl | rfl | rfl | rfl <;> rfl
theorem df_X6 : ∀ j, j < am_nf 4 → defaultValue (tyX6 j) = vp_V [.null, .null, .int 0, .int 0, .int 0, .int 0] j := by
  intro j hj
  have hj : j < 6 := hj
  rcases (show j = 0 ∨ j = 1 ∨ j = 2 ∨ j = 3 ∨ j = 4 ∨ j = 5 by omega) with rfl | rfl | rfl | rfl | rfl | rfl <;> rfl
theorem df_X7 : ∀ j, j < am_nf 3 → defaultValue (tyX7 j) = vp_V [.null, .int 0, .int 0, .int 0, .int 0] j := by
  intro j hj
  have hj : j < 5 := hj
  rcases (show j = 0 ∨ j = 1 ∨ j = 2 ∨ j = 3 ∨ j = 4 by omega) with rfl | rfl | rfl | rfl | rfl <;> rfl
theorem df_X8 : ∀ j, j < am_nf 0 → defaultValue (tyX8 j) = vp_V [.null, .null, .null, .null, .null, .null, .null, .null, .int 0, .int 0, .int 0, .int 0] j := by
  intro j hj
  have hj : j < 12 := hj
  rcases (show j = 0 ∨ j = 1 ∨ j = 2 ∨ j = 3 ∨ j = 4 ∨ j = 5 ∨ j = 6 ∨ j = 7 ∨ j = 8 ∨ j = 9 ∨ j = 10 ∨ j = 11 by omega) with rfl | rfl | rfl | rfl | rfl | rfl | rfl | rfl | rfl | rfl | rfl | rfl <;> rfl
theorem mo_X0_init : am_mo yX0_init cX0_init 1 none 0 := ⟨am_w1 89 rfl, am_w1 6 rfl, by decide, by decide, by decide +kernel, by decide⟩
theorem mo_X1_init : am_mo yX1_init cX1_init 2 none 0 := ⟨am_w1 166 rfl, am_w1 9 rfl, by decide, by decide, by decide +kernel, by decide⟩
theorem mo_X3_init : am_mo yX3_init cX3_init 1 none 0 := ⟨am_w1 31 rfl, am_w1 3 rfl, by decide, by decide, by decide +kernel, by decide⟩
theorem mo_X4_init : am_mo yX4_init cX4_init 2 none 0 := ⟨am_w1 195 rfl, am_w1 10 rfl, by decide, by decide, by decide +kernel, by decide⟩
theorem mo_X5_init : am_mo yX5_init cX5_init 1 none 0 := ⟨am_w1 25 rfl, am_w1 2 rfl, by decide, by decide, by decide +kernel, by decide⟩
theorem mo_X6_init : am_mo yX6_init cX6_init 1 none 0 := ⟨am_w1 83 rfl, am_w1 5 rfl, by decide, by decide, by decide +kernel, by decide⟩
theorem mo_X7_init : am_mo yX7_init cX7_init 2 none 0 := ⟨am_w1 76 rfl, am_w1 4 rfl, by decide, by decide, by decide +kernel, by decide⟩
theorem mo_X8_init : am_mo yX8_init cX8_init 1 none 0 := ⟨am_w1 17 rfl, am_w1 1 rfl, by decide, by decide, by decide +kernel, by decide⟩
theorem mo_X9_init : am_mo yX9_init cX9_init 1 none 0 := ⟨am_w4 43 rfl, am_w1 11 rfl, by decide, by decide, by decide +kernel, by decide⟩
/-- a person's cells: himself, his credits, their row -/
def ct_ps (ca : Nat → ClassId) (k0 : Nat) (p : Nat × Nat × Nat) : va_W := [(p.1, .inr (5, [.ref p.2.1, .ref k0, .int 0, .int 0, .int 0, .int 0])), (p.2.1, .inr (0, [.ref p.2.2, .int 0])), (p.2.2, ct_ia ca 12)]
def ct_wp (ca : Nat → ClassId) (k0 : Nat) (ps : List (Nat × Nat × Nat)) : va_W := ps.flatMap (ct_ps ca k0)
def ct_f (ps : List (Nat × Nat × Nat)) (q : Nat) : Option Nat := (ps[q]?).map (fun p => p.1)
def ct_wL (ca : Nat → ClassId) (h : Nat) (q : Nat × Nat × Nat) : va_W := [(h, .inr (2, [.ref q.1, .ref q.2.1, .ref q.2.2, .int 0])), (q.1, ct_ia ca 4), (q.2.1, ct_ia ca 4), (q.2.2, ct_ia ca 4)]
def ct_wG (ca : Nat → ClassId) (h a b : Nat) (q : Nat × Nat × Nat) : va_W := (h, .inr (4, [.ref a, .ref b, .int 0, .int 0, .int 0])) :: (a, ct_ia ca 30) :: ct_wL ca b q
def ct_wT (ca : Nat → ClassId) (k0 h a : Nat) (ps : List (Nat × Nat × Nat)) : va_W := (h, .inr (6, [.ref a, .int 0, .int 0, .int 0, .int 0])) :: (a, ct_ra ca 4 (ct_f ps)) :: ct_wp ca k0 ps
def ct_wH (ca : Nat → ClassId) (k0 h a : Nat) (ps : List (Nat × Nat × Nat)) : va_W := (h, .inr (1, [.ref a, .int 0, .int 0, .int 0, .int 0, .int 0])) :: (a, ct_ra ca 7 (ct_f ps)) :: ct_wp ca k0 ps
def ct_wD (ca : Nat → ClassId) (k0 h b a : Nat) (ps : List (Nat × Nat × Nat)) : va_W := (h, .inr (3, [.ref b, .ref a, .int 0, .int 0, .int 0, .int 0, .int 0])) :: (b, ct_ia ca 5) :: (a, ct_ra ca 5 (ct_f ps)) :: ct_wp ca k0 ps
set_option maxRecDepth 20000 in
theorem ct_X0 (l : Launch) (sz0 k0 : Nat) (ca : Nat → ClassId) (D : va_G) : ct_M l yX0_init cX0_init 1 1 1 12 0 [.null, .int 0] sz0 k0 ca D (fun h w => ∃ a, w = [(h, .inr (0, [.ref a, .int 0])), (a, ct_ia ca 12)]) := by
  refine ct_met (by decide) rfl (Nat.le_of_ble_eq_true rfl) (fun h0 p e s m below meth c A ls Cx hin hr hlk hW hl => ?_)
  have Cx : ct_Cx cX0_init 1 RX0 sz0 k0 ca D A p s m c := Cx
  refine lv_aload_n Cx.1 Cx.2.1 dX0_init_0 rfl (lv_at hl 0 rfl) ?_
  refine ct_oi Cx hl.1 (am_w1 90 rfl) (Nat.le_of_ble_eq_true rfl) (Nat.le_of_ble_eq_true rfl) dX0_init_1 ?_
  refine lv_aload_n Cx.1 Cx.2.1 dX0_init_4 rfl (lv_at hl 0 rfl) ?_
  refine lv_bipush (v := 12) Cx.1 Cx.2.1 dX0_init_5 (by decide) ?_
  refine ct_newi (N := 12) Cx hW (by decide) (by decide) (by decide) (Nat.le_of_ble_eq_true rfl) (Nat.le_of_ble_eq_true rfl) dX0_init_7 (fun q1 H hW => ?_)
  have hW : ct_W D A s [(h0, .inr (0, [.null, .int 0])), (q1, ct_ia ca 12)] H [] := hW
  refine ct_putF (t := 5) Cx hin cf_5 0 (Nat.le_of_ble_eq_true rfl) (am_w1 91 rfl) rfl rfl rfl rfl (Nat.le_of_ble_eq_true rfl) hW dX0_init_9 (fun H locs hW => ?_)
  have hW : ct_W D A s [(h0, .inr (0, [.ref q1, .int 0])), (q1, ct_ia ca 12)] H locs := hW
  exact ct_ret Cx hr hlk hW ⟨q1, rfl⟩ dX0_init_12
set_option maxRecDepth 20000 in
theorem ct_X3 (l : Launch) (sz0 k0 : Nat) (ca : Nat → ClassId) (D : va_G) : ct_M l yX3_init cX3_init 1 1 3 12 2 [.null, .null, .null, .int 0] sz0 k0 ca D (fun h w => ∃ q, w = ct_wL ca h q) := by
  refine ct_met (by decide) rfl (Nat.le_of_ble_eq_true rfl) (fun h0 p e s m below meth c A ls Cx hin hr hlk hW hl => ?_)
  have Cx : ct_Cx cX3_init 1 RX3 sz0 k0 ca D A p s m c := Cx
  refine lv_aload_n Cx.1 Cx.2.1 dX3_init_0 rfl (lv_at hl 0 rfl) ?_
  refine ct_oi Cx hl.1 (am_w1 32 rfl) (Nat.le_of_ble_eq_true rfl) (Nat.le_of_ble_eq_true rfl) dX3_init_1 ?_
  refine lv_aload_n Cx.1 Cx.2.1 dX3_init_4 rfl (lv_at hl 0 rfl) ?_
  refine lv_iconst (v := 4) Cx.1 Cx.2.1 dX3_init_5 (by decide) ?_
  refine ct_newi (N := 4) Cx hW (by decide) (by decide) (by decide) (Nat.le_of_ble_eq_true rfl) (Nat.le_of_ble_eq_true rfl) dX3_init_6 (fun q0 H hW => ?_)
  have hW : ct_W D A s [(h0, .inr (2, [.null, .null, .null, .int 0])), (q0, ct_ia ca 4)] H [] := hW
  refine ct_putF (t := 2) Cx hin cf_2 0 (Nat.le_of_ble_eq_true rfl) (am_w1 33 rfl) rfl rfl rfl rfl (Nat.le_of_ble_eq_true rfl) hW dX3_init_8 (fun H locs hW => ?_)
  have hW : ct_W D A s [(h0, .inr (2, [.ref q0, .null, .null, .int 0])), (q0, ct_ia ca 4)] H locs := hW
  refine lv_aload_n Cx.1 Cx.2.1 dX3_init_11 rfl (lv_at hl 0 rfl) ?_
  refine lv_iconst (v := 4) Cx.1 Cx.2.1 dX3_init_12 (by decide) ?_
  refine ct_newi (N := 4) Cx hW (by decide) (by decide) (by decide) (Nat.le_of_ble_eq_true rfl) (Nat.le_of_ble_eq_true rfl) dX3_init_13 (fun q1 H hW => ?_)
  have hW : ct_W D A s [(h0, .inr (2, [.ref q0, .null, .null, .int 0])), (q0, ct_ia ca 4), (q1, ct_ia ca 4)] H locs := hW
  refine ct_putF (t := 2) Cx hin cf_2 1 (Nat.le_of_ble_eq_true rfl) (am_w1 35 rfl) rfl rfl rfl rfl (Nat.le_of_ble_eq_true rfl) hW dX3_init_15 (fun H locs hW => ?_)
  have hW : ct_W D A s [(h0, .inr (2, [.ref q0, .ref q1, .null, .int 0])), (q0, ct_ia ca 4), (q1, ct_ia ca 4)] H locs := hW
  refine lv_aload_n Cx.1 Cx.2.1 dX3_init_18 rfl (lv_at hl 0 rfl) ?_
  refine lv_iconst (v := 4) Cx.1 Cx.2.1 dX3_init_19 (by decide) ?_
  refine ct_newi (N := 4) Cx hW (by decide) (by decide) (by decide) (Nat.le_of_ble_eq_true rfl) (Nat.le_of_ble_eq_true rfl) dX3_init_20 (fun q2 H hW => ?_)
  have hW : ct_W D A s [(h0, .inr (2, [.ref q0, .ref q1, .null, .int 0])), (q0, ct_ia ca 4), (q1, ct_ia ca 4), (q2, ct_ia ca 4)] H locs := hW
  refine ct_putF (t := 2) Cx hin cf_2 2 (Nat.le_of_ble_eq_true rfl) (am_w1 37 rfl) rfl rfl rfl rfl (Nat.le_of_ble_eq_true rfl) hW dX3_init_22 (fun H locs hW => ?_)
  have hW : ct_W D A s [(h0, .inr (2, [.ref q0, .ref q1, .ref q2, .int 0])), (q0, ct_ia ca 4), (q1, ct_ia ca 4), (q2, ct_ia ca 4)] H locs := hW
  exact ct_ret Cx hr hlk hW ⟨(q0, q1, q2), rfl⟩ dX3_init_25
set_option maxRecDepth 20000 in
theorem ct_X6 (l : Launch) (sz0 k0 : Nat) (ca : Nat → ClassId) (D : va_G) : ct_M l yX6_init cX6_init 1 2 2 14 5 [.null, .null, .int 0, .int 0, .int 0, .int 0] sz0 k0 ca D (fun h w => ∃ a b, w = ct_ps ca k0 (h, a, b)) := by
  refine ct_met (by decide) rfl (Nat.le_of_ble_eq_true rfl) (fun h0 p e s m below meth c A ls Cx hin hr hlk hW hl => ?_)
  have Cx : ct_Cx cX6_init 1 RX6 sz0 k0 ca D A p s m c := Cx
  refine lv_aload_n Cx.1 Cx.2.1 dX6_init_0 rfl (lv_at hl 0 rfl) ?_
  refine ct_oi Cx hl.1 (am_w1 84 rfl) (Nat.le_of_ble_eq_true rfl) (Nat.le_of_ble_eq_true rfl) dX6_init_1 ?_
  refine lv_aload_n Cx.1 Cx.2.1 dX6_init_4 rfl (lv_at hl 0 rfl) ?_
  refine ct_new (t := 5) (fs := [.null, .int 0]) Cx cf_5 df_X0 (am_w1 85 rfl) (am_w1 86 rfl) (am_w1 6 rfl) hW (Nat.le_of_ble_eq_true rfl) (Nat.le_of_ble_eq_true rfl) dX6_init_5 (fun q H hW => ?_)
  refine lv_dup Cx.1 Cx.2.1 dX6_init_8 rfl ?_
  refine ct_call (ws := [(h0, .inr (5, [.null, .null, .int 0, .int 0, .int 0, .int 0]))]) (q := q) Cx (ct_X0 l sz0 k0 ca D) mo_X0_init rfl (am_w1 88 rfl) (Or.inr ⟨"ServedAhead", am_w1 87 rfl⟩) (Nat.le_of_ble_eq_true rfl) (Nat.le_of_ble_eq_true rfl) hl.1 (Nat.le_of_ble_eq_true rfl) hW (Nat.le_of_ble_eq_true rfl) (Nat.le_of_ble_eq_true rfl) dX6_init_9 (fun w1 H locs hX hW => ?_)
  obtain ⟨r, rfl⟩ := hX
  have hW : ct_W D A s [(h0, .inr (5, [.null, .null, .int 0, .int 0, .int 0, .int 0])), (q, .inr (0, [.ref r, .int 0])), (r, ct_ia ca 12)] H locs := hW
  refine ct_putF (t := 4) Cx hin cf_4 0 (Nat.le_of_ble_eq_true rfl) (am_w1 103 rfl) rfl rfl rfl rfl (Nat.le_of_ble_eq_true rfl) hW dX6_init_12 (fun H locs hW => ?_)
  have hW : ct_W D A s [(h0, .inr (5, [.ref q, .null, .int 0, .int 0, .int 0, .int 0])), (q, .inr (0, [.ref r, .int 0])), (r, ct_ia ca 12)] H locs := hW
  refine lv_aload_n Cx.1 Cx.2.1 dX6_init_15 rfl (lv_at hl 0 rfl) ?_
  refine ct_gs Cx (am_w1 101 rfl) hW dX6_init_16 ?_
  refine ct_put (t := 4) Cx cf_4 1 (Nat.le_of_ble_eq_true rfl) (am_w1 107 rfl) rfl rfl rfl (Nat.le_of_ble_eq_true rfl) hW dX6_init_19 (fun H locs hW => ?_)
  have hW : ct_W D A s [(h0, .inr (5, [.ref q, .ref k0, .int 0, .int 0, .int 0, .int 0])), (q, .inr (0, [.ref r, .int 0])), (r, ct_ia ca 12)] H locs := hW
  exact ct_ret Cx hr hlk hW ⟨q, r, rfl⟩ dX6_init_22
set_option maxRecDepth 20000 in
theorem ct_X5 (l : Launch) (sz0 k0 : Nat) (ca : Nat → ClassId) (D : va_G) : ct_M l yX5_init cX5_init 1 2 5 46 4 [.null, .null, .int 0, .int 0, .int 0] sz0 k0 ca D (fun h w => ∃ a b q, w = ct_wG ca h a b q) := by
  refine ct_met (by decide) rfl (Nat.le_of_ble_eq_true rfl) (fun h0 p e s m below meth c A ls Cx hin hr hlk hW hl => ?_)
  have Cx : ct_Cx cX5_init 1 RX5 sz0 k0 ca D A p s m c := Cx
  refine lv_aload_n Cx.1 Cx.2.1 dX5_init_0 rfl (lv_at hl 0 rfl) ?_
  refine ct_oi Cx hl.1 (am_w1 26 rfl) (Nat.le_of_ble_eq_true rfl) (Nat.le_of_ble_eq_true rfl) dX5_init_1 ?_
  refine lv_aload_n Cx.1 Cx.2.1 dX5_init_4 rfl (lv_at hl 0 rfl) ?_
  refine lv_bipush (v := 30) Cx.1 Cx.2.1 dX5_init_5 (by decide) ?_
  refine ct_newi (N := 30) Cx hW (by decide) (by decide) (by decide) (Nat.le_of_ble_eq_true rfl) (Nat.le_of_ble_eq_true rfl) dX5_init_7 (fun q1 H hW => ?_)
  have hW : ct_W D A s [(h0, .inr (4, [.null, .null, .int 0, .int 0, .int 0])), (q1, ct_ia ca 30)] H [] := hW
  refine ct_putF (t := 1) Cx hin cf_1 0 (Nat.le_of_ble_eq_true rfl) (am_w1 52 rfl) rfl rfl rfl rfl (Nat.le_of_ble_eq_true rfl) hW dX5_init_9 (fun H locs hW => ?_)
  have hW : ct_W D A s [(h0, .inr (4, [.ref q1, .null, .int 0, .int 0, .int 0])), (q1, ct_ia ca 30)] H locs := hW
  refine lv_aload_n Cx.1 Cx.2.1 dX5_init_12 rfl (lv_at hl 0 rfl) ?_
  refine ct_new (t := 2) (fs := [.null, .null, .null, .int 0]) Cx cf_2 df_X3 (am_w1 27 rfl) (am_w1 28 rfl) (am_w1 3 rfl) hW (Nat.le_of_ble_eq_true rfl) (Nat.le_of_ble_eq_true rfl) dX5_init_13 (fun q2 H hW => ?_)
  refine lv_dup Cx.1 Cx.2.1 dX5_init_16 rfl ?_
  refine ct_call (ws := [(h0, .inr (4, [.ref q1, .null, .int 0, .int 0, .int 0])), (q1, ct_ia ca 30)]) (q := q2) Cx (ct_X3 l sz0 k0 ca D) mo_X3_init rfl (am_w1 30 rfl) (Or.inr ⟨"ServedAhead", am_w1 29 rfl⟩) (Nat.le_of_ble_eq_true rfl) (Nat.le_of_ble_eq_true rfl) hl.1 (Nat.le_of_ble_eq_true rfl) hW (Nat.le_of_ble_eq_true rfl) (Nat.le_of_ble_eq_true rfl) dX5_init_17 (fun w1 H locs hX hW => ?_)
  obtain ⟨r, rfl⟩ := hX
  have hW : ct_W D A s ((h0, .inr (4, [.ref q1, .null, .int 0, .int 0, .int 0])) :: (q1, ct_ia ca 30) :: ct_wL ca q2 r) H locs := hW
  refine ct_putF (t := 1) Cx hin cf_1 1 (Nat.le_of_ble_eq_true rfl) (am_w1 53 rfl) rfl rfl rfl rfl (Nat.le_of_ble_eq_true rfl) hW dX5_init_20 (fun H locs hW => ?_)
  have hW : ct_W D A s ((h0, .inr (4, [.ref q1, .ref q2, .int 0, .int 0, .int 0])) :: (q1, ct_ia ca 30) :: ct_wL ca q2 r) H locs := hW
  exact ct_ret Cx hr hlk hW ⟨q1, q2, r, rfl⟩ dX5_init_23
