/-! THE START: the statics, the classes, the walk to the loop -/
def sg_K (i : Nat) : Term := .static "ServedAhead$Kind" (am_kn.getD i "") "LServedAhead$Kind;"
theorem sg_ls : ∀ i, i < 5 → Cond.laysStatic "ServedAhead$Kind" (am_kn.getD i "") "LServedAhead$Kind;" ∈ lw_tbl := by
  intro i hi
  rcases (show i = 0 ∨ i = 1 ∨ i = 2 ∨ i = 3 ∨ i = 4 by omega) with rfl | rfl | rfl | rfl | rfl
  · exact am_w1 102 rfl
  · exact am_w6 52 rfl
  · exact am_w6 53 rfl
  · exact am_w2 200 rfl
  · exact am_w2 198 rfl
theorem sg_ex : ∀ i, i < 5 → Cond.exactly (sg_K i) "ServedAhead$Kind" ∈ flatC (Jvm.Cond.and given_1 narrow_1) := by decide +kernel
theorem sg_f : ∀ q ∈ am_kF, ∀ i, i < 5 → Cond.eq (.field (sg_K i) q.1 q.2.1 q.2.2.1) (.int (q.2.2.2.getD i 0)) ∈ flatC (Jvm.Cond.and given_1 narrow_1) := by decide +kernel
theorem sg_d : ∀ i, i < 5 → ∀ j, j < 5 → i ≠ j → (Cond.not (.eq (sg_K i) (sg_K j)) ∈ flatC (Jvm.Cond.and given_1 narrow_1) ∨ Cond.not (.eq (sg_K j) (sg_K i)) ∈ flatC (Jvm.Cond.and given_1 narrow_1)) := by decide +kernel
theorem sg_ac : ∀ j, j < 11 → Cond.eq (.elem (.static "ServedAhead" "ACTS" "[I") (.int (Int32.ofNat j))) (.int (am_acts.getD j 0)) ∈ flatC (Jvm.Cond.and given_1 narrow_1) := by decide +kernel
theorem sg_al : ∀ j, j < 5 → Cond.eq (.elem (.static "ServedAhead$Kind" "ALL" "[LServedAhead$Kind;") (.int (Int32.ofNat j))) (sg_K j) ∈ flatC (Jvm.Cond.and given_1 narrow_1) := by decide +kernel
theorem sg_RO {s : State} {b : Nat} (hts : ∀ w ∈ lw_tbl, w.before #[Value.ref b] s = true) (hgv : (Jvm.Cond.and given_1 narrow_1).before #[Value.ref b] s = true) : ∃ (k20 : Nat → Nat) (ac al : Nat), ∀ ad : Nat → Nat → Nat, (∀ i, ad 20 i = k20 i) → ad 21 0 = ac → ad 22 0 = al → am_RO ad (fun q => s.heap.size ≤ q) s s.heap := by
  have hs := flat_of_before _ hgv
  have hA : ∀ a : Nat, a < s.heap.size → ¬ s.heap.size ≤ a := fun a h => by omega
  obtain ⟨k20, hE, hev⟩ := va_Enof2 (args := #[Value.ref b]) (s := s) (E := "ServedAhead$Kind") (d := "LServedAhead$Kind;") (nm := am_kn) (F := am_kF) (A := fun q => s.heap.size ≤ q) (fun i hi => hts _ (sg_ls i hi)) (hts _ (am_w1 8 rfl)) (fun i hi => hs _ (sg_ex i hi)) (fun q hq i hi => hs _ (sg_f q hq i hi)) (fun i j hi hj hij => (sg_d i hi j hj hij).imp (fun h => hs _ h) (fun h => hs _ h)) hA
  obtain ⟨ac, e1, hac⟩ := va_Tof (args := #[Value.ref b]) (s := s) (tm := .static "ServedAhead" "ACTS" "[I") (ty := .int) (N := 11) (f := fun q => .int (am_acts.getD q 0)) (A := fun q => s.heap.size ≤ q) (by decide) (hs _ (by decide +kernel)) (va_eqt (z := 11) (hs _ (by decide +kernel))) (fun j hj => va_eqt (hs _ (sg_ac j hj))) hA
  obtain ⟨al, e2, hal⟩ := va_Tof (args := #[Value.ref b]) (s := s) (tm := .static "ServedAhead$Kind" "ALL" "[LServedAhead$Kind;") (ty := .object "ServedAhead$Kind") (N := 5) (f := fun q => .ref (k20 q)) (A := fun q => s.heap.size ≤ q) (by decide) (hs _ (by decide +kernel)) (va_eqt (z := 5) (hs _ (by decide +kernel))) (fun j hj => va_eqv (hs _ (sg_al j hj)) (hev j hj)) hA
  refine ⟨k20, ac, al, fun ad h1 h2 h3 => ?_⟩
  have e20 : ad 20 = k20 := funext h1
  unfold am_RO
  rw [e20, h2, h3]
  exact ⟨hE, va_Zref (hts _ (am_w3 128 rfl)) (hts _ (am_w1 1 rfl)) e1 hA, hac, va_Zref (hts _ (am_w2 148 rfl)) (hts _ (am_w1 8 rfl)) e2 hA, hal⟩
theorem sg_Kn {s : State} {args : Array Value} (hts : ∀ w ∈ lw_tbl, w.before args s = true) : ∀ cz : Nat, ∃ z : ClassId × (Nat → Nat), ∀ q : vw_C, vwCl[cz]? = some q → u_Kn s q.1 q.2.1 q.2.2 z.1 z.2 := by
  intro cz
  have one : ∀ {t : Nat} {C : String} {Tt : u_T} {ty0 : Nat → FieldType}, am_cf t C Tt ty0 → Cond.instantiable C (am_nf t) ∈ lw_tbl → ∀ {r : vw_C}, vwCl[cz]? = some r → r = (C, Tt, am_nf t) → ∃ z : ClassId × (Nat → Nat), ∀ q : vw_C, vwCl[cz]? = some q → u_Kn s q.1 q.2.1 q.2.2 z.1 z.2 := by
    intro t C Tt ty0 hc hi r hr e
    obtain ⟨cC, iS, h⟩ := u_known (n := am_nf t) hts (fun w hw => (hc.2.2.1 w hw).1) (hts _ hi)
    refine ⟨(cC, iS), fun q hq => ?_⟩
    rw [hr] at hq
    have e2 : q = (C, Tt, am_nf t) := (Option.some.inj hq).symm.trans e
    subst e2
    exact h
  rcases Nat.lt_or_ge cz 9 with h | h
  · rcases (show cz = 0 ∨ cz = 1 ∨ cz = 2 ∨ cz = 3 ∨ cz = 4 ∨ cz = 5 ∨ cz = 6 ∨ cz = 7 ∨ cz = 8 by omega) with rfl | rfl | rfl | rfl | rfl | rfl | rfl | rfl | rfl
    · exact one cf_5 (am_w1 86 rfl) rfl rfl
    · exact one cf_6 (am_w1 163 rfl) rfl rfl
    · exact one cf_2 (am_w1 28 rfl) rfl rfl
    · exact one cf_7 (am_w1 192 rfl) rfl rfl
    · exact one cf_1 (am_w1 22 rfl) rfl rfl
    · exact one cf_4 (am_w1 80 rfl) rfl rfl
    · exact one cf_3 (am_w1 73 rfl) rfl rfl
    · exact one cf_0 (am_w1 14 rfl) rfl rfl
    · exact one cf_32 (am_w4 40 rfl) rfl rfl
  · exact ⟨(0, fun _ => 0), fun q hq => by rw [List.getElem?_eq_none (show vwCl.length ≤ cz from h)] at hq; cases hq⟩
theorem sg_arr {s : State} {args : Array Value} {ty : FieldType} (h : (Cond.arrayClass ty).before args s = true) : ∃ cA : ClassId, ArrOfT s cA ty ∧ s.vm.findClass ("[" ++ ty.toString) = some cA := by
  obtain ⟨cA, kA, comp, h1, h2, h3⟩ := Cond.arrayClass_spec h
  exact ⟨cA, fun n z => ⟨fun k h => (by cases h), kA, h2, comp, h3⟩, h1⟩
theorem sg_KK {s : State} {args : Array Value} (hts : ∀ w ∈ lw_tbl, w.before args s = true) : ∃ (D : va_G) (ca : Nat → ClassId), va_K D vwCl (am_tys ca) s := by
  obtain ⟨z, hz⟩ := Classical.axiomOfChoice (sg_Kn hts)
  obtain ⟨c0, a1, a2⟩ := sg_arr (hts _ (am_w1 51 rfl : Cond.arrayClass .int ∈ lw_tbl))
  obtain ⟨c1, b1, b2⟩ := sg_arr (hts _ (am_w4 229 rfl : Cond.arrayClass .byte ∈ lw_tbl))
  obtain ⟨comp, c2, k, d1, d2, d3, d4, d5⟩ := Cond.arrayOver_spec (hts _ (am_w1 79 rfl : Cond.arrayOver (.object "ServedAhead$Person") ∈ lw_tbl))
  refine ⟨(fun c => (z c).1, fun c => (z c).2), fun j => [c0, c1, c2].getD j 0, fun c q hq => hz c q hq, fun j q hq => ?_⟩
  have hj : j < 3 := (List.getElem?_eq_some_iff.mp hq).1
  rcases (show j = 0 ∨ j = 1 ∨ j = 2 by omega) with rfl | rfl | rfl
  · cases hq; exact ⟨a1, a2⟩
  · cases hq; exact ⟨b1, b2⟩
  · cases hq; exact ⟨fun N z => ⟨(fun k h => by cases h), k, d3, comp, d4⟩, k, comp, d3, d4, d1, d5⟩
theorem sg_En {s : State} {args : Array Value} (hts : ∀ w ∈ lw_tbl, w.before args s = true) : ct_En s := ⟨fun w hw hg => va_Nw.of (am_gw_on hg) (hts w hw), (hts _ (am_w1 51 rfl : Cond.arrayClass .int ∈ lw_tbl)), (hts _ (am_w4 229 rfl : Cond.arrayClass .byte ∈ lw_tbl)), va_AO.of (hts _ (am_w1 79 rfl : Cond.arrayOver (.object "ServedAhead$Person") ∈ lw_tbl))⟩
theorem sg_ok : am_ok (lvL (nI 0), ([], (x_0, z_0))) := by
  refine ⟨fun q hq => ?_, fun v hv => absurd hv List.not_mem_nil, fun i => (by decide : 0 < 5)⟩
  unfold lvL at hq
  simp only [List.mem_cons, List.not_mem_nil, or_false] at hq
  rcases hq with rfl | rfl | rfl | rfl
  · exact True.intro
  · exact Or.inr (Or.inr ⟨Or.inr (Or.inr rfl), rfl⟩)
  · exact Or.inl (by decide +kernel)
  · exact Or.inl (by decide +kernel)
set_option maxRecDepth 100000 in
set_option maxHeartbeats 4000000 in
/-- what the constructors leave -/
theorem sg_fin {D : va_G} {A : Nat → Prop} {H : Heap} {ca : Nat → ClassId} (k20 : Nat → Nat) (ac al sc h mo : Nat) {w1 w2 : va_W} (h1 : ct_XS ca (k20 0) h w1) (h2 : ct_XM ca mo w2) (hP : va_P D vwCl (w1 ++ w2) H) (hD : va_D A (w1 ++ w2)) : ∃ ad : Nat → Nat → Nat, am_Wd ad ca D A (x_0, z_0) H ∧ ad 0 0 = h ∧ ad 32 0 = mo ∧ (∀ i, ad 20 i = k20 i) ∧ ad 21 0 = ac ∧ ad 22 0 = al ∧ ad 23 0 = sc := by
  obtain ⟨pg, a, b, gq, st, sq, t0, a0, p0, t1, a1, p1, t2, a2, p2, u12, hu, ah, ph, le, lb, la, pl, e0, e1, e2, e3, e4, rfl⟩ := h1
  obtain ⟨m43, m44, m45, m48, m49, m50, m51, m52, m53, m54, m57, m62, m63, m64, m65, m66, m67, m68, m69, m74, m81, m86, m87, m88, m89, m90, m94, m95, m96, m97, m98, m99, rfl⟩ := h2
  obtain ⟨u0, u1, u2, u3, rfl⟩ := ct_l4 e0
  obtain ⟨u4, u5, u6, u7, rfl⟩ := ct_l4 e1
  obtain ⟨u8, u9, u10, u11, rfl⟩ := ct_l4 e2
  obtain ⟨u13, u14, u15, u16, u17, u18, u19, rfl⟩ := ct_l7 e3
  obtain ⟨u20, u21, u22, u23, u24, rfl⟩ := ct_l5 e4
  exact ⟨ct_ad k20 (ct_tb ac al sc h pg a b gq st sq t0 a0 t1 a1 t2 a2 hu ah le lb la mo u0 u1 u2 u3 u4 u5 u6 u7 u8 u9 u10 u11 u12 u13 u14 u15 u16 u17 u18 u19 u20 u21 u22 u23 u24 m43 m44 m45 m48 m49 m50 m51 m52 m53 m54 m57 m62 m63 m64 m65 m66 m67 m68 m69 m74 m81 m86 m87 m88 m89 m90 m94 m95 m96 m97 m98 m99), ct_lit k20 ac al sc h pg a b gq st sq t0 a0 t1 a1 t2 a2 hu ah le lb la mo u0 u1 u2 u3 u4 u5 u6 u7 u8 u9 u10 u11 u12 u13 u14 u15 u16 u17 u18 u19 u20 u21 u22 u23 u24 m43 m44 m45 m48 m49 m50 m51 m52 m53 m54 m57 m62 m63 m64 m65 m66 m67 m68 m69 m74 m81 m86 m87 m88 m89 m90 m94 m95 m96 m97 m98 m99 ⟨hP, hD⟩, rfl, rfl, fun _ => rfl, rfl, rfl, rfl⟩
set_option maxRecDepth 20000 in
/-- from the entry, for every script of at most 256 ints, the law comes to its end with true -/
theorem whole_start {p : Program} {e : Env} {s : State} {m : MethodId} {below : List Frame} {meth : Method} {c : Code} (l : Launch) {b L : Nat} {xs : Nat → Int32} (hL : L ≤ 256) (C0 : lw_At p s m meth c b L xs) : W p l e room_1 s m #[Value.ref b] below meth c s.heap [] 0 0 (lw_Z below #[Value.ref b] s) (entryFrame m ([Value.ref b] : List Value).toArray 4) := by
  obtain ⟨hx, hb, hr, hml, hown, hts, hX, hbl, hlk, hgv⟩ := C0
  obtain ⟨D, ca, hK⟩ := sg_KK hts
  obtain ⟨k20, ac, al, hRO⟩ := sg_RO hts hgv
  have hen := sg_En hts
  have hZ : ct_Z (k20 0) s.heap.size s s.heap := ((hRO (fun t i => bif Nat.beq t 20 then k20 i else bif Nat.beq t 21 then ac else al) (fun _ => rfl) rfl rfl).1.1 0 (by decide)).1
  generalize hAe : (fun q : Nat => s.heap.size ≤ q) = A at hRO
  have Cx : ct_Cx code 4 RL s.heap.size (k20 0) ca D A p s m c := ⟨hx, hb, hml, hown, hen, hZ, hK, fun q h => by rw [← hAe]; exact h, fun q h => by rw [← hAe] at h; exact h⟩
  have hl := lv_entry ([.ref b]) (n := 4) (Nat.le_of_ble_eq_true rfl)
  rw [lg_entry_eq]
  generalize (lg_sl ([.ref b]) ++ List.replicate (4 - (lg_sl ([.ref b])).length) Slot.unset).toArray = ls at hl ⊢
  have hl : lv_has ls 4 [(0, .ref b)] := hl
  have hW : ct_W D A s [] s.heap [] := ⟨fun k q h => by simp at h, ⟨fun i j p q h => by simp at h, fun k q h => by simp at h⟩, va_S.rf⟩
  refine ct_new (t := 0) (fs := [.null, .null, .null, .null, .null, .null, .null, .null, .int 0, .int 0, .int 0, .int 0]) Cx cf_0 df_X8 (am_w1 13 rfl) (am_w1 14 rfl) (am_w1 1 rfl) hW (Nat.le_of_ble_eq_true rfl) (Nat.le_of_ble_eq_true rfl) dL_law_0 (fun h H hW => ?_)
  refine lv_dup hx hb dL_law_3 rfl ?_
  refine ct_call (ws := []) (q := h) Cx (ct_X8 l s.heap.size (k20 0) ca D) mo_X8_init rfl (am_w1 16 rfl) (Or.inl (am_w1 15 rfl)) (Nat.le_of_ble_eq_true rfl) (Nat.le_of_ble_eq_true rfl) hl.1 (Nat.le_of_ble_eq_true rfl) hW (Nat.le_of_ble_eq_true rfl) (Nat.le_of_ble_eq_true rfl) dL_law_4 (fun w1 H locs hX1 hW => ?_)
  refine lv_astore_n (lv' := [(1, .ref h), (0, .ref b)]) hx hb dL_law_7 rfl hl (by decide) rfl (fun ls hl => ?_)
  refine ct_new (ws := w1) (t := 32) (fs := [.int 0, .int 0, .int 0, .null, .null, .null, .int 0, .int 0, .null, .null, .null, .null, .null, .null, .null, .int 0, .int 0, .null, .int 0, .int 0, .int 0, .int 0, .null, .null, .null, .null, .null, .null, .null, .null, .int 0, .int 0, .int 0, .int 0, .null, .int 0, .int 0, .int 0, .int 0, .int 0, .int 0, .null, .int 0, .int 0, .long 0, .int 0, .null, .null, .null, .null, .null, .int 0, .int 0, .int 0, .null, .null, .null, .null, .null, .null, .long 0]) Cx cf_32 df_X9 (am_w4 39 rfl) (am_w4 40 rfl) (am_w1 11 rfl) hW (Nat.le_of_ble_eq_true rfl) (Nat.le_of_ble_eq_true rfl) dL_law_8 (fun mo H hW => ?_)
  refine lv_dup hx hb dL_law_11 rfl ?_
  refine ct_call (ws := w1) (q := mo) Cx (ct_X9 l s.heap.size (k20 0) ca D) mo_X9_init rfl (am_w4 42 rfl) (Or.inl (am_w4 41 rfl)) (Nat.le_of_ble_eq_true rfl) (Nat.le_of_ble_eq_true rfl) hl.1 (Nat.le_of_ble_eq_true rfl) hW (Nat.le_of_ble_eq_true rfl) (Nat.le_of_ble_eq_true rfl) dL_law_12 (fun w2 H locs hX2 hW => ?_)
  refine lv_astore_n (lv' := [(2, .ref mo), (1, .ref h), (0, .ref b)]) hx hb dL_law_15 rfl hl (by decide) rfl (fun ls hl => ?_)
  refine lv_iconst (v := 0) hx hb dL_law_16 (by decide) ?_
  refine lv_istore_n (lv' := [(3, .int (nI 0)), (2, .ref mo), (1, .ref h), (0, .ref b)]) hx hb dL_law_17 rfl hl (by decide) rfl (fun ls hl => ?_)
  refine W.widen (k := 600000) (n := 7302250) (Nat.le_of_ble_eq_true rfl) (Nat.le_of_ble_eq_true rfl) ?_
  obtain ⟨ad, hWd, d0, d32, d20, d21, d22, d23⟩ := sg_fin k20 ac al b h mo hX1 hX2 hW.1 hW.2.1
  have hl : lv_has ls 4 ((lvL (nI 0)).map (am_cp ad)) := by
    show lv_has ls 4 [(3, .int (nI 0)), (0, .ref (ad 23 0)), (1, .ref (ad 0 0)), (2, .ref (ad 32 0))]
    rw [d0, d32, d23]
    exact lv_sub hl [0, 3, 2, 1] rfl
  have Cl : am_Cx I_law ad ca D A 600000 7302250 p room_1 s m #[Value.ref b] meth c := ⟨hx, hb, hr, hml, hown, hlk, hen.1, hRO ad d20 d21 d22, hK, Nat.le_refl _, Nat.le_refl _, (Nat.le_of_ble_eq_true rfl), (Nat.le_of_ble_eq_true rfl)⟩
  have hf : ∀ q, A q → s.heap.size ≤ q := Cx.2.2.2.2.2.2.2.2
  have hbA : ¬ A b := fun h => absurd (hf b h) (by omega)
  obtain ⟨M, n, hM⟩ := ll_loop (xs := xs) hL 64 0 0 x_0 z_0 (by omega) (by omega) (by omega) (fun i => (by decide : 0 < 5)) Rel_0
  exact am_lp_sy (P := pL xs L) (fun pc => pL_sy Cl hf hX hbl hbA d23 pc) (d := 40) (Nat.le_of_ble_eq_true rfl) (Nat.le_of_ble_eq_true rfl) rfl n 18 (lvL (nI 0), ([], (x_0, z_0))) hM sg_ok H locs ls hWd hW.2.2 hl
