/-! CONSTRUCTORS: their rows -/
def ct_En (U : State) : Prop := am_En U ∧ va_Nw (.arrayClass .int) U ∧ va_Nw (.arrayClass .byte) U ∧ va_AO "ServedAhead$Person" U
/-- the static PERSON, beside all that is made from sz0 on -/
def ct_Z (k0 sz0 : Nat) (U : State) (H : Heap) : Prop := va_Z "ServedAhead$Kind" "PERSON" "LServedAhead$Kind;" (.ref k0) (fun q => sz0 ≤ q) U H
theorem ct_En.warm {s U : State} (h : ct_En s) (hW : s.WarmedH U.vm) : ct_En U := ⟨h.1.warm hW, word_at hW (Or.inr ⟨_, rfl⟩) h.2.1, word_at hW (Or.inr ⟨_, rfl⟩) h.2.2.1, h.2.2.2.moved hW.alike⟩
theorem ct_En.calling {U : State} (h : ct_En U) (g : JFrame) (mk : MethodId) (a : Array Value) : ct_En (U.calling g mk a) := ⟨h.1.same rfl, h.2.1, h.2.2.1, h.2.2.2.moved (Vm.Alike.refl U.vm)⟩
def ct_Pre (sz0 k0 : Nat) (ca : Nat → ClassId) (D : va_G) (h0 : Nat) (x : va_E) (sz : Nat) (U : State) : Prop := ct_En U ∧ ct_Z k0 sz0 U U.heap ∧ va_K D vwCl (am_tys ca) U ∧ U.heap.size = sz ∧ sz0 ≤ h0 ∧ va_P D vwCl [(h0, x)] U.heap
def ct_Q (D : va_G) (A : Nat → Prop) (X : va_W → Prop) : Array Value → State → Outcome → State → Prop := va_Qv X (fun w t => va_P D vwCl w t.heap ∧ va_D A w) A
def ct_rm (d mc ms : Nat) : Room := { frames := d, cells := mc, slots := ms, locals := 40 * d }
/-- a constructor's contract: d frames deep, mc cells of ms slots; X what it leaves -/
def ct_M (l : Launch) (y : MethodName) (yb : ByteArray) (yL d mc ms ci : Nat) (fs : List Value) (sz0 k0 : Nat) (ca : Nat → ClassId) (D : va_G) (X : Nat → va_W → Prop) : Prop := ∀ h0 sz : Nat, Met l y [.code y yb yL none] (ct_rm d mc ms) (va_Pc [.ref h0] (ct_Pre sz0 k0 ca D h0 (.inr (ci, fs)) sz)) (ct_Q D (va_A [(h0, .inr (ci, fs))] sz) (X h0)) mc ms (va_A [(h0, .inr (ci, fs))] sz)
def ct_W (D : va_G) (A : Nat → Prop) (s : State) (ws : va_W) (H : Heap) (locs : List Loc) : Prop := va_P D vwCl ws H ∧ va_D A ws ∧ va_S A s.heap H locs
def ct_Cx (cc : ByteArray) (nL : Nat) (own : String) (sz0 k0 : Nat) (ca : Nat → ClassId) (D : va_G) (A : Nat → Prop) (p : Program) (s : State) (m : MethodId) (c : Code) : Prop := p.tables.exec = Jvm.exec ∧ c.code = cc ∧ c.maxLocals = nL ∧ s.vm.findClass own = some m.cls ∧ ct_En s ∧ ct_Z k0 sz0 s s.heap ∧ va_K D vwCl (am_tys ca) s ∧ (∀ q, s.heap.size ≤ q → A q) ∧ (∀ q, A q → sz0 ≤ q)
theorem ct_one (h0 : Nat) (x : va_E) : va_D (fun _ => True) [(h0, x)] := by
  refine ⟨fun i j p q hi hj _ => ?_, fun _ _ _ => True.intro⟩
  have h1 : i < 1 := (List.getElem?_eq_some_iff.mp hi).1
  have h2 : j < 1 := (List.getElem?_eq_some_iff.mp hj).1
  omega
theorem ct_rng (ws : va_W) (x : Nat × va_E) : (List.range ws.length).map (fun i => (ws ++ [x])[i]?) = ws.map some := by
  apply List.ext_getElem?
  intro k
  rw [List.getElem?_map, List.getElem?_map]
  by_cases hk : k < ws.length
  · rw [List.getElem?_range hk]
    show some ((ws ++ [x])[k]?) = _
    rw [List.getElem?_append_left hk, List.getElem?_eq_getElem hk]
    rfl
  · rw [List.getElem?_eq_none (by rw [List.length_range]; omega), List.getElem?_eq_none (by omega)]
    rfl
theorem ct_nd : ∀ l : List Nat, l.Nodup → va_nd l = true := by
  intro l
  induction l with
  | nil => intro _; rfl
  | cons a l ih =>
    intro h
    rw [List.nodup_cons] at h
    unfold va_nd
    rw [Bool.and_eq_true, decide_eq_true_eq]
    exact ⟨h.1, ih h.2⟩
theorem ct_last (ws : va_W) (x : Nat × va_E) : (ws ++ [x])[ws.length]? = some x := by
  rw [List.getElem?_append_right (Nat.le_refl _), Nat.sub_self]
  rfl
theorem ct_met {l : Launch} {y : MethodName} {yb : ByteArray} {yL d mc ms ci : Nat} {fs : List Value} {sz0 k0 : Nat} {ca : Nat → ClassId} {D : va_G} {X : Nat → va_W → Prop} (hpl : plainName y.cls = true) (hnm : y.name = "<init>") (hyL : 1 ≤ yL)
    (K : ∀ (h0 : Nat) (p : Program) (e : Env) (s : State) (m : MethodId) (below : List Frame) (meth : Method) (c : Code) (A : Nat → Prop) (ls : Array Slot), ct_Cx yb yL y.cls sz0 k0 ca D A p s m c → meth.name = "<init>" → meth.sig.returnType = none → meth.locks = false → ct_W D A s [(h0, .inr (ci, fs))] s.heap [] → lv_has ls yL [(0, .ref h0)] → W p l e (ct_rm d mc ms) s m #[Value.ref h0] below meth c s.heap [] 0 0 (MQ below (ct_Q D A (X h0)) #[Value.ref h0] s mc ms A) (F0 m 0 ls [])) : ct_M l y yb yL d mc ms ci fs sz0 k0 ca D X := by
  intro h0 sz
  refine Met.ofW (cc := yb) (maxL := yL) (ret := none) hpl rfl ?_
  intro p e s m args below meth c s₁ B hml hv
  obtain ⟨rfl, hen, hZ, hK, hsz, h0z, hP⟩ := hv
  subst hsz
  have hlt : h0 < s.heap.size := (hP 0 _ rfl).lt
  have hl := lv_entry ([.ref h0]) (n := yL) (show 1 ≤ yL from hyL)
  rw [lg_entry_eq]
  refine K h0 p e s m below meth c (va_A [(h0, .inr (ci, fs))] s.heap.size) _ ⟨B.exec, B.bytes, hml, findClass_of_methodNamed B.named, hen, hZ, hK, fun q h => Or.inr h, fun q h => ?_⟩ ((name_of_methodNamed B.named B.method).1.trans hnm) B.returns B.notSynchronized ⟨hP, (ct_one h0 _).self, va_S.rf⟩ hl
  rcases h with ⟨k, e, h⟩ | h
  · have h1 : k < 1 := (List.getElem?_eq_some_iff.mp h).1
    rw [show k = 0 by omega] at h
    have h2 : h0 = q := congrArg Prod.fst (Option.some.inj h)
    omega
  · omega
section CTR
variable {p : Program} {l : Launch} {e : Env} {R : Room} {s : State} {m : MethodId} {args : Array Value} {below : List Frame} {meth : Method} {c : Code} {H : Heap} {locs : List Loc} {nc ns : Nat} {Q : State → Prop} {ls : Array Slot} {rest : List Value} {pc : Nat}
variable {cc : ByteArray} {nL : Nat} {own : String} {sz0 k0 : Nat} {ca : Nat → ClassId} {D : va_G} {A : Nat → Prop} {ws : va_W} {t k a q index N : Nat} {C : String} {Tt : u_T} {ty0 : Nat → FieldType} {fs : List Value} {v : Value}
theorem ct_oi (Cx : ct_Cx cc nL own sz0 k0 ca D A p s m c) (hls : ls.size = nL) (hw : Cond.methodLink own index objectInit ∈ lw_tbl) (hf : 1 ≤ R.frames) (hlo : 12 ≤ R.locals) (hd : decode cc pc = .ok (.invokespecial index, 3)) (kk : W p l e R s m args below meth c H locs nc ns Q (F0 m (pc + 3) ls [])) : W p l e R s m args below meth c H locs nc ns Q (F0 m pc ls [.ref a]) := by
  obtain ⟨hx, hb, hml, hown, hen, hZ, hK, hA, hA0⟩ := Cx
  exact W.objInit hx hb hown (am_use hen.1 hw rfl) (am_use hen.1 (am_w1 19 rfl) rfl) (am_use hen.1 (am_w1 20 rfl) rfl) rfl (by rw [hml]; exact hls) rfl hd hf (by show 2 * 0 + 0 + 12 ≤ R.locals; omega) kk
theorem ct_new (Cx : ct_Cx cc nL own sz0 k0 ca D A p s m c) (hc : am_cf t C Tt ty0) (hfs : ∀ j, j < am_nf t → defaultValue (ty0 j) = vp_V fs j) (h1 : Cond.classLink own index C ∈ lw_tbl) (h2 : Cond.instantiable C (am_nf t) ∈ lw_tbl) (h3 : Cond.initialized C ∈ lw_tbl) (hW : ct_W D A s ws H locs) (hnc : nc + 1 ≤ R.cells) (hns : ns + am_nf t ≤ R.slots) (hd : decode cc pc = .ok (.new index, 3))
    (kk : ∀ (q : Nat) (H1 : Heap), ct_W D A s (ws ++ [(q, .inr (am_ci t, fs))]) H1 locs → W p l e R s m args below meth c H1 locs (nc + 1) (ns + am_nf t) Q (F0 m (pc + 3) ls (.ref q :: rest))) : W p l e R s m args below meth c H locs nc ns Q (F0 m pc ls rest) := by
  obtain ⟨hx, hb, hml, hown, hen, hZ, hK, hA, hA0⟩ := Cx
  obtain ⟨c1, c2, c3, c4, c5, c6⟩ := hc
  have hts : ∀ w ∈ u_ws C Tt (am_nf t), w.before args s = true := fun w h => am_use hen.1 (c3 w h).1 (c3 w h).2
  exact va_new (ci := am_ci t) hx hb hts (fun _ h => h) ty0 c4 hown (am_use hen.1 h1 rfl) (am_use hen.1 h2 rfl) (am_use hen.1 h3 rfl) hK hW.1 hW.2.1 hW.2.2 hA c2 hfs hnc hns hd (fun q H1 a1 a2 a3 => kk q H1 ⟨a1, a2, a3⟩)
theorem ct_ca0 {cA : ClassId} (hK : va_K D vwCl (am_tys ca) s) (hK2 : va_K D vwCl (am_tys ca ++ [(cA, .int)]) s) : cA = ca 0 := by
  have h1 : s.vm.findClass ("[" ++ FieldType.int.toString) = some (ca 0) := (hK.2 0 _ rfl).2
  have h2 : s.vm.findClass ("[" ++ FieldType.int.toString) = some cA := (hK2.2 3 _ rfl).2
  exact Option.some.inj (h2.symm.trans h1)
theorem ct_ca1 {cA : ClassId} (hK : va_K D vwCl (am_tys ca) s) (hK2 : va_K D vwCl (am_tys ca ++ [(cA, .byte)]) s) : cA = ca 1 := by
  have h1 : s.vm.findClass ("[" ++ FieldType.byte.toString) = some (ca 1) := (hK.2 1 _ rfl).2
  have h2 : s.vm.findClass ("[" ++ FieldType.byte.toString) = some cA := (hK2.2 3 _ rfl).2
  exact Option.some.inj (h2.symm.trans h1)
theorem ct_ca2 {cA : ClassId} (hK : va_K D vwCl (am_tys ca) s) (hK2 : va_K D vwCl (am_tys ca ++ [(cA, .object "ServedAhead$Person")]) s) : cA = ca 2 := by
  obtain ⟨-, -, -, -, -, h1⟩ := (hK.2 2 _ rfl).2
  obtain ⟨-, -, -, -, -, h2⟩ := (hK2.2 3 _ rfl).2
  exact Option.some.inj (h2.symm.trans h1)
/-- an array of ints, all 0 -/
abbrev ct_ia (ca : Nat → ClassId) (n : Nat) : va_E := .inl (ca 0, n, .inl (fun _ => 0))
abbrev ct_ba (ca : Nat → ClassId) (n : Nat) : va_E := .inl (ca 1, n, .inl (fun _ => 0))
abbrev ct_ra (ca : Nat → ClassId) (n : Nat) (f : Nat → Option Nat) : va_E := .inl (ca 2, n, .inr (.inr (.inr (.inr f))))
theorem ct_newi {n : Int32} (Cx : ct_Cx cc nL own sz0 k0 ca D A p s m c) (hW : ct_W D A s ws H locs) (hn : ¬ n < 0) (hN : n.toNatClampNeg = N) (hby : N * 4 ≤ 536870912) (hnc : nc + 1 ≤ R.cells) (hns : ns + N ≤ R.slots) (hd : decode cc pc = .ok (.newarray .int, 2))
    (kk : ∀ (q : Nat) (H1 : Heap), ct_W D A s (ws ++ [(q, ct_ia ca N)]) H1 locs → W p l e R s m args below meth c H1 locs (nc + 1) (ns + N) Q (F0 m (pc + 2) ls (.ref q :: rest))) : W p l e R s m args below meth c H locs nc ns Q (F0 m pc ls (.int n :: rest)) := by
  obtain ⟨hx, hb, hml, hown, hen, hZ, hK, hA, hA0⟩ := Cx
  refine va_newa (atype := .int) (ty := .int) (a0 := (N, .inl (fun _ => 0))) hx hb (show (Cond.arrayClass FieldType.int).before args s = true from hen.2.1) rfl hK hW.1 hW.2.1 hW.2.2 hA (fun _ => rfl) hn hN hby hnc hns hd (fun q cA H1 a0 a1 a2 a3 => ?_)
  have e := ct_ca0 hK a0
  subst e
  exact kk q H1 ⟨a1, a2, a3⟩
theorem ct_newb {n : Int32} (Cx : ct_Cx cc nL own sz0 k0 ca D A p s m c) (hW : ct_W D A s ws H locs) (hn : ¬ n < 0) (hN : n.toNatClampNeg = N) (hby : N * 1 ≤ 536870912) (hnc : nc + 1 ≤ R.cells) (hns : ns + N ≤ R.slots) (hd : decode cc pc = .ok (.newarray .byte, 2))
    (kk : ∀ (q : Nat) (H1 : Heap), ct_W D A s (ws ++ [(q, ct_ba ca N)]) H1 locs → W p l e R s m args below meth c H1 locs (nc + 1) (ns + N) Q (F0 m (pc + 2) ls (.ref q :: rest))) : W p l e R s m args below meth c H locs nc ns Q (F0 m pc ls (.int n :: rest)) := by
  obtain ⟨hx, hb, hml, hown, hen, hZ, hK, hA, hA0⟩ := Cx
  refine va_newa (atype := .byte) (ty := .byte) (a0 := (N, .inl (fun _ => 0))) hx hb (show (Cond.arrayClass FieldType.byte).before args s = true from hen.2.2.1) rfl hK hW.1 hW.2.1 hW.2.2 hA (fun _ => rfl) hn hN hby hnc hns hd (fun q cA H1 a0 a1 a2 a3 => ?_)
  have e := ct_ca1 hK a0
  subst e
  exact kk q H1 ⟨a1, a2, a3⟩
theorem ct_newq {n : Int32} (Cx : ct_Cx cc nL own sz0 k0 ca D A p s m c) (hcl : Cond.classLink own index "ServedAhead$Person" ∈ lw_tbl) (hW : ct_W D A s ws H locs) (hn : ¬ n < 0) (hN : n.toNatClampNeg = N) (hby : N * 4 ≤ 536870912) (hnc : nc + 1 ≤ R.cells) (hns : ns + N ≤ R.slots) (hd : decode cc pc = .ok (.anewarray index, 3))
    (kk : ∀ (q : Nat) (H1 : Heap), ct_W D A s (ws ++ [(q, ct_ra ca N (fun _ => none))]) H1 locs → W p l e R s m args below meth c H1 locs (nc + 1) (ns + N) Q (F0 m (pc + 3) ls (.ref q :: rest))) : W p l e R s m args below meth c H locs nc ns Q (F0 m pc ls (.int n :: rest)) := by
  obtain ⟨hx, hb, hml, hown, hen, hZ, hK, hA, hA0⟩ := Cx
  refine va_newq hx hb hown (am_use hen.1 hcl rfl) hen.2.2.2 hK hW.1 hW.2.1 hW.2.2 hA hn hN hby hnc hns hd (fun q cA H1 a0 a1 a2 a3 => ?_)
  have e := ct_ca2 hK a0
  subst e
  exact kk q H1 ⟨a1, a2, a3⟩
theorem ct_putF (Cx : ct_Cx cc nL own sz0 k0 ca D A p s m c) (hin : meth.name = "<init>") (hc : am_cf t C Tt ty0) (k : Nat) (hk : k < am_nf t) (hw : Cond.fieldLink own index (Tt k).1 (Tt k).2.1 (Tt k).2.2.1 ∈ lw_tbl) (hfin : (Tt k).2.2.2 = true) (hdecl : (Tt k).1 = own) (hn : narrow (ty0 k) v = v) (hfit : fits (ty0 k) v = true) (hl : k < fs.length) (hW : ct_W D A s ((a, .inr (am_ci t, fs)) :: ws) H locs) (hd : decode cc pc = .ok (.putfield index, 3))
    (kk : ∀ (H1 : Heap) (locs1 : List Loc), ct_W D A s ((a, .inr (am_ci t, fs.set k v)) :: ws) H1 locs1 → W p l e R s m args below meth c H1 locs1 nc ns Q (F0 m (pc + 3) ls rest)) : W p l e R s m args below meth c H locs nc ns Q (F0 m pc ls (v :: .ref a :: rest)) := by
  obtain ⟨hx, hb, hml, hown, hen, hZ, hK, hA, hA0⟩ := Cx
  obtain ⟨c1, c2, c3, c4, c5, c6⟩ := hc
  have hts : ∀ w ∈ u_ws C Tt (am_nf t), w.before args s = true := fun w h => am_use hen.1 (c3 w h).1 (c3 w h).2
  exact va_putF (D := D) hx hb hts (fun _ h => h) ty0 c4 c5 hown hK hW.1 hW.2.1 hW.2.2 0 rfl c2 k hk (am_use hen.1 hw rfl) (fun _ h => h) hfin hin hdecl (c4 k hk) hn hfit hl hd (fun H1 locs1 a1 a2 a3 => kk H1 locs1 ⟨a1, a2, a3⟩)
theorem ct_put (Cx : ct_Cx cc nL own sz0 k0 ca D A p s m c) (hc : am_cf t C Tt ty0) (k : Nat) (hk : k < am_nf t) (hw : Cond.fieldLink own index (Tt k).1 (Tt k).2.1 (Tt k).2.2.1 ∈ lw_tbl) (hfin : (Tt k).2.2.2 = false) (hn : narrow (ty0 k) v = v) (hfit : fits (ty0 k) v = true) (hl : k < fs.length) (hW : ct_W D A s ((a, .inr (am_ci t, fs)) :: ws) H locs) (hd : decode cc pc = .ok (.putfield index, 3))
    (kk : ∀ (H1 : Heap) (locs1 : List Loc), ct_W D A s ((a, .inr (am_ci t, fs.set k v)) :: ws) H1 locs1 → W p l e R s m args below meth c H1 locs1 nc ns Q (F0 m (pc + 3) ls rest)) : W p l e R s m args below meth c H locs nc ns Q (F0 m pc ls (v :: .ref a :: rest)) := by
  obtain ⟨hx, hb, hml, hown, hen, hZ, hK, hA, hA0⟩ := Cx
  obtain ⟨c1, c2, c3, c4, c5, c6⟩ := hc
  have hts : ∀ w ∈ u_ws C Tt (am_nf t), w.before args s = true := fun w h => am_use hen.1 (c3 w h).1 (c3 w h).2
  exact va_put (D := D) hx hb hts (fun _ h => h) ty0 c4 c5 hown hK hW.1 hW.2.1 hW.2.2 0 rfl c2 k hk (am_use hen.1 hw rfl) (fun _ h => h) hfin (c4 k hk) hn hfit hl hd (fun H1 locs1 a1 a2 a3 => kk H1 locs1 ⟨a1, a2, a3⟩)
theorem ct_get (Cx : ct_Cx cc nL own sz0 k0 ca D A p s m c) (hc : am_cf t C Tt ty0) (k : Nat) (hk : k < am_nf t) (hw : Cond.fieldLink own index (Tt k).1 (Tt k).2.1 (Tt k).2.2.1 ∈ lw_tbl) (hv : fs[k]? = some v) (hW : ct_W D A s ((a, .inr (am_ci t, fs)) :: ws) H locs) (hd : decode cc pc = .ok (.getfield index, 3))
    (kk : W p l e R s m args below meth c H locs nc ns Q (F0 m (pc + 3) ls (v :: rest))) : W p l e R s m args below meth c H locs nc ns Q (F0 m pc ls (.ref a :: rest)) := by
  obtain ⟨hx, hb, hml, hown, hen, hZ, hK, hA, hA0⟩ := Cx
  obtain ⟨c1, c2, c3, c4, c5, c6⟩ := hc
  have hts : ∀ w ∈ u_ws C Tt (am_nf t), w.before args s = true := fun w h => am_use hen.1 (c3 w h).1 (c3 w h).2
  exact va_get (D := D) hx hb hts (fun _ h => h) hown hK hW.1 0 rfl c2 k hk (am_use hen.1 hw rfl) (fun _ h => h) hv hd kk
theorem ct_ret {X : va_W → Prop} (Cx : ct_Cx cc nL own sz0 k0 ca D A p s m c) (hr : meth.sig.returnType = none) (hlk : meth.locks = false) (hW : ct_W D A s ws H locs) (hX : X ws) (hd : decode cc pc = .ok (.return_, 1)) : W p l e R s m args below meth c H locs nc ns (MQ below (ct_Q D A X) args s nc ns A) (F0 m pc ls []) :=
  W.vret Cx.1 Cx.2.1 hr (fun t ht _ => ⟨⟨ws, rfl, hX, by rw [ht]; exact hW.1, hW.2.1⟩, hW.2.2.F ht⟩) hW.2.2.2.2 hd
theorem ct_call {y : MethodName} {yb : ByteArray} {yL d mc ms ci : Nat} {X : Nat → va_W → Prop} (Cx : ct_Cx cc nL own sz0 k0 ca D A p s m c) (hM : ct_M l y yb yL d mc ms ci fs sz0 k0 ca D X) (ho : am_mo y yb yL none 0) (hnm : y.name = "<init>") (hin : Cond.instanceMethod y ∈ lw_tbl) (hk : am_ml own index y) (hf : d + 1 ≤ R.frames) (hl0 : 40 * d + 40 ≤ R.locals) (hls : ls.size = nL) (hst : (rest.map fun v => v.category).sum ≤ 8) (hW : ct_W D A s (ws ++ [(q, .inr (ci, fs))]) H locs) (hnc : nc + mc ≤ R.cells) (hns : ns + ms ≤ R.slots) (hd : decode cc pc = .ok (.invokespecial index, 3))
    (kk : ∀ (w1 : va_W) (H1 : Heap) (locs1 : List Loc), X q w1 → ct_W D A s (ws ++ w1) H1 locs1 → W p l e R s m args below meth c H1 locs1 (nc + mc) (ns + ms) Q (F0 m (pc + 3) ls rest)) : W p l e R s m args below meth c H locs nc ns Q (F0 m pc ls (.ref q :: rest)) := by
  obtain ⟨hx, hb, hml, hown, hen, hZ, hK, hA, hA0⟩ := Cx
  obtain ⟨hP, hD, hS⟩ := hW
  obtain ⟨o1, o2, o3, o4, o5, o6⟩ := ho
  have hC : [ws.length].map (fun i => (ws ++ [(q, Sum.inr (ci, fs))])[i]?) = [((q, Sum.inr (ci, fs)) : Nat × va_E)].map some := by
    show [(ws ++ [(q, Sum.inr (ci, fs))])[ws.length]?] = [some (q, Sum.inr (ci, fs))]
    rw [ct_last]
  have hFc := va_free hD hS hA [ws.length] hC
  have hPc : va_P D vwCl [(q, .inr (ci, fs))] H := fun k x hx => hP (ws.length + k) x (by rw [List.getElem?_append_right (by omega), Nat.add_sub_cancel_left]; exact hx)
  have hqz : sz0 ≤ q := hA0 q (hD.2 ws.length _ (ct_last ws _))
  have hws : ∀ w ∈ [Cond.code y yb yL none], ∀ (a' : Array Value) (U : State), s.WarmedH U.vm → w.before a' U = true := by
    intro w hw a' U hU
    rw [List.mem_singleton.mp hw]
    exact am_use (hen.1.warm hU) o1 rfl
  have hbl : FrameBlind (va_Pc [.ref q] (ct_Pre sz0 k0 ca D q (.inr (ci, fs)) H.size)) := by
    intro a U g mk h
    obtain ⟨h0, h1, h2, h3, h4, h5, h6⟩ := h
    exact ⟨h0, h1.calling g mk a, va_Z.moved (u := U) (U := U.calling g mk a) (Vm.Alike.refl U.vm) h2, va_K.moved (u := U) (U := U.calling g mk a) (Vm.Alike.refl U.vm) h3, h4, h5, h6⟩
  have hpre : ∀ U : State, U.heap = H → s.WarmedH U.vm → va_Pc [.ref q] (ct_Pre sz0 k0 ca D q (.inr (ci, fs)) H.size) [Value.ref q].toArray U := by
    intro U hU hw
    refine ⟨rfl, hen.warm hw, ?_, va_K.moved hw.alike hK, by rw [hU], hqz, by rw [hU]; exact hPc⟩
    rw [hU]
    exact va_Z.moved hw.alike (va_Z.kept (H1 := H) hZ (fun a h1 h2 => hS.2.1 a h1 (fun h3 => h2 (hA0 a h3))))
  have run : va_Run p l e R s m args below meth c H locs nc ns mc ms (F0 m pc ls (.ref q :: rest)) rest (ct_Q D (va_A [(q, .inr (ci, fs))] H.size) (X q) [Value.ref q].toArray) (va_A [(q, .inr (ci, fs))] H.size) := by
    rcases hk with hk | ⟨host, hk⟩
    · exact va_runI (Ts := []) (As := []) ⟨hx, hb, hml, hown, fun _ h => absurd h List.not_mem_nil⟩ (hM q H.size) ⟨⟨rfl, rfl, hf, (by show 8 + (yL + 11) + 40 * d ≤ R.locals; omega), hws, List.mem_singleton.mpr rfl, am_use hen.1 o1 rfl, am_use hen.1 o2 rfl, ⟨o3, o4⟩, am_desc o5, am_use hen.1 hk rfl⟩, hnm, am_use hen.1 hin rfl⟩ ⟨hbl, hpre⟩ rfl rfl hls rfl (lv_room hst) hd ⟨hnc, hns⟩
    · exact va_runIN (Ts := []) (As := []) ⟨hx, hb, hml, hown, fun _ h => absurd h List.not_mem_nil⟩ (hM q H.size) ⟨⟨⟨rfl, rfl, hf, (by show 8 + (yL + 11) + 40 * d ≤ R.locals; omega), hws, List.mem_singleton.mpr rfl⟩, am_use hen.1 o1 rfl, am_use hen.1 o2 rfl, ⟨o3, o4⟩, am_desc o5, am_use hen.1 hk rfl⟩, hnm, am_use hen.1 hin rfl⟩ ⟨hbl, hpre⟩ rfl rfl hls rfl (lv_room hst) hd ⟨hnc, hns⟩
  refine va_callv run hS (fun q' _ h => hFc q' h) hFc (fun w1 t H1 locs1 ht hvm hX hB hz1 hk1 hS1 => ?_)
  rw [ht] at hB
  obtain ⟨hP2, hD2⟩ := va_join (wr := ws) (w1 := w1) hP hD [ws.length] (List.range ws.length) hC (ct_rng ws _) (ct_nd _ List.nodup_range) (fun i hi h => by rw [List.mem_singleton.mp h] at hi; exact absurd (List.mem_range.mp hi) (Nat.lt_irrefl _)) hk1 hFc hB.1 hB.2
  exact kk w1 H1 locs1 hX ⟨hP2, hD2, hS1⟩
end CTR
