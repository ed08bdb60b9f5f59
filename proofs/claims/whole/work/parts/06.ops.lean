/-! SOUNDNESS OF THE OPS -/
def am_gw (w : Cond) : Bool := (w.onTables && w.keeps) || (match w with
  | .fieldLinkNest .. => true
  | .methodLinkNest .. => true
  | _ => false)
/-- the tables' words, at a state -/
def am_En (U : State) : Prop := ∀ w ∈ lw_tbl, am_gw w = true → va_Nw w U
theorem am_gw_on {w : Cond} (h : am_gw w = true) : w.onTables = true := by
  unfold am_gw at h
  rw [Bool.or_eq_true] at h
  rcases h with h | h
  · rw [Bool.and_eq_true] at h
    exact h.1
  · cases w <;> first | rfl | cases h
theorem am_En.warm {s U : State} (h : am_En s) (hW : s.WarmedH U.vm) : am_En U := by
  intro w hw hg
  have h1 := h w hw hg
  unfold am_gw at hg
  rw [Bool.or_eq_true] at hg
  rcases hg with hg | hg
  · exact word_at hW (Or.inl hg) h1
  · cases w <;> first | exact va_Nw.warmF hW h1 | exact va_Nw.warmM hW h1 | cases hg
theorem am_En.same {u U : State} (h : am_En u) (e : u.vm = U.vm) : am_En U := fun w hw hg => va_Nw.same (am_gw_on hg) e (h w hw hg)
def am_kn : List String := ["PERSON", "WIDOW", "MONK", "THIEF", "BARON"]
def am_kF : List (String × String × String × List Int32) := [("ServedAhead$Kind", "number", "I", [0, 1, 2, 3, 4]), ("ServedAhead$Kind", "needsLess", "I", [0, 1, 0, 0, 0]), ("ServedAhead$Kind", "getsMore", "I", [0, 0, 0, 1, 1]), ("ServedAhead$Kind", "givenAWeek", "I", [1, 1, 2, 1, 1]), ("ServedAhead$Kind", "owesTimes", "I", [2, 2, 2, 2, 1])]
/-- what is never written: the KINDs, ACTS, the KINDs' array -/
def am_RO (ad : Nat → Nat → Nat) (A : Nat → Prop) (U : State) (H : Heap) : Prop :=
  va_En "ServedAhead$Kind" "LServedAhead$Kind;" am_kn am_kF (ad 20) A U H ∧ va_Z "ServedAhead" "ACTS" "[I" (.ref (ad 21 0)) A U H ∧ va_T .int (ad 21 0) 11 (fun q => .int (am_acts.getD q 0)) A U H ∧ va_Z "ServedAhead$Kind" "ALL" "[LServedAhead$Kind;" (.ref (ad 22 0)) A U H ∧ va_T (.object "ServedAhead$Kind") (ad 22 0) 5 (fun q => .ref (ad 20 q)) A U H
theorem am_RO.moved {ad : Nat → Nat → Nat} {A : Nat → Prop} {u U : State} {H : Heap} (hvm : u.vm.Alike U.vm) (h : am_RO ad A u H) : am_RO ad A U H := ⟨h.1.moved hvm, h.2.1.moved hvm, h.2.2.1.moved hvm, h.2.2.2.1.moved hvm, h.2.2.2.2.moved hvm⟩
theorem am_RO.kept {ad : Nat → Nat → Nat} {A : Nat → Prop} {U : State} {H H1 : Heap} (h : am_RO ad A U H) (hq : ∀ a : Nat, a < H.size → ¬ A a → H1[a]? = H[a]?) : am_RO ad A U H1 := ⟨h.1.kept hq, h.2.1.kept hq, h.2.2.1.kept hq, h.2.2.2.1.kept hq, h.2.2.2.2.kept hq⟩
abbrev am_tys (ca : Nat → ClassId) : List (ClassId × FieldType) := [(ca 0, .int), (ca 1, .byte), (ca 2, .object "ServedAhead$Person")]
/-- a method's code, its locals' words, its answer's type, its class -/
abbrev am_In : Type := ByteArray × (Nat × (Option FieldType × String))
def am_Cx (I : am_In) (ad : Nat → Nat → Nat) (ca : Nat → ClassId) (D : va_G) (A : Nat → Prop) (nc ns : Nat) (p : Program) (R : Room) (s : State) (m : MethodId) (args : Array Value) (meth : Method) (c : Code) : Prop :=
  p.tables.exec = Jvm.exec ∧ c.code = I.1 ∧ meth.sig.returnType = I.2.2.1 ∧ c.maxLocals = I.2.1 ∧ s.vm.findClass I.2.2.2 = some m.cls ∧ meth.locks = false ∧ am_En s ∧ am_RO ad A s s.heap ∧ va_K D vwCl (am_tys ca) s ∧ nc ≤ R.cells ∧ ns ≤ R.slots ∧ 1 ≤ R.frames ∧ 40 ≤ R.locals
def am_vk (t i : Nat) : Prop := (t, i) ∈ am_keys ∨ (t = 20 ∧ i < 5) ∨ ((t = 21 ∨ t = 22 ∨ t = 23) ∧ i = 0)
def am_ov (v : am_V) : Prop := match v with
  | .inr (.inr q) => am_vk q.1 q.2
  | _ => True
def am_ok (a : am_S) : Prop := (∀ q ∈ a.1, am_ov q.2) ∧ (∀ v ∈ a.2.1, am_ov v) ∧ ∀ i, xK a.2.2.1 i < 5
def am_G (I : am_In) (ad : Nat → Nat → Nat) (ca : Nat → ClassId) (D : va_G) (A : Nat → Prop) (nc ns : Nat) (p : Program) (l : Launch) (e : Env) (R : Room) (s : State) (m : MethodId) (args : Array Value) (below : List Frame) (meth : Method) (c : Code) (Q : State → Prop) (pc : Nat) (a : am_S) : Prop :=
  ∀ (H : Heap) (locs : List Loc) (ls : Array Slot), am_Wd ad ca D A a.2.2 H → va_S A s.heap H locs → lv_has ls I.2.1 (a.1.map (am_cp ad)) → W p l e R s m args below meth c H locs nc ns Q (F0 m pc ls (a.2.1.map (am_cv ad)))
def am_rm (d : Nat) : Room := { frames := d, cells := 0, slots := 0, locals := 40 * d }
def am_Pc (ad : Nat → Nat → Nat) (ca : Nat → ClassId) (D : va_G) (A : Nat → Prop) (as : List am_V) (M : am_W) : Array Value → State → Prop := va_Pc (as.map (am_cv ad)) (fun U => am_En U ∧ am_RO ad A U U.heap ∧ va_K D vwCl (am_tys ca) U ∧ am_Wd ad ca D A M U.heap)
def am_Qc (ad : Nat → Nat → Nat) (ca : Nat → ClassId) (D : va_G) (A : Nat → Prop) (r : am_Q) : Array Value → State → Outcome → State → Prop := fun _ st oc t => oc = .returned (r.1.map (am_cv ad)) ∧ ((∀ v, r.1 = some v → am_ov v) ∧ ∀ i, xK r.2.1 i < 5) ∧ am_Wd ad ca D A r.2 t.heap ∧ va_F A st t
abbrev am_Me : Type := MethodName × (ByteArray × (Nat × Option FieldType))
def am_Mt (l : Launch) (d : Nat) (y : am_Me) (as : List am_V) (M : am_W) (r : am_Q) : Prop := ∀ (ad : Nat → Nat → Nat) (ca : Nat → ClassId) (D : va_G) (A : Nat → Prop), Met l y.1 [.code y.1 y.2.1 y.2.2.1 y.2.2.2] (am_rm d) (am_Pc ad ca D A as M) (am_Qc ad ca D A r) 0 0 A
def am_So (T : Nat → am_Me) (I : am_In) (pc : Nat) (op : am_O) : Prop := ∀ (ad : Nat → Nat → Nat) (ca : Nat → ClassId) (D : va_G) (A : Nat → Prop) (nc ns : Nat) (p : Program) (l : Launch) (e : Env) (R : Room) (s : State) (m : MethodId) (args : Array Value) (below : List Frame) (meth : Method) (c : Code), am_Cx I ad ca D A nc ns p R s m args meth c → ∀ (lv : am_LV) (st : List am_V) (M : am_W), am_ok (lv, (st, M)) → match op (lv, (st, M)) with
  | none => True
  | some (.inl b) => am_ok b.2 ∧ ∀ Q, am_G I ad ca D A nc ns p l e R s m args below meth c Q b.1 b.2 → am_G I ad ca D A nc ns p l e R s m args below meth c Q pc (lv, (st, M))
  | some (.inr (.inl b)) => (∀ v ∈ b.2.1, am_ov v) ∧ am_cs b.2.1 ≤ (T b.1).2.2.1 ∧ am_ok b.2.2.2 ∧ ∀ Q d r, am_Mt l d (T b.1) b.2.1 b.2.2.2.2.2 r → d + 1 ≤ R.frames → 40 * d + 40 ≤ R.locals → ((∀ v, r.1 = some v → am_ov v) → (∀ i, xK r.2.1 i < 5) → am_G I ad ca D A nc ns p l e R s m args below meth c Q b.2.2.1 (b.2.2.2.1, (am_push r.1 b.2.2.2.2.1, r.2))) → am_G I ad ca D A nc ns p l e R s m args below meth c Q pc (lv, (st, M))
  | some (.inr (.inr r)) => am_G I ad ca D A nc ns p l e R s m args below meth c (MQ below (am_Qc ad ca D A r) args s nc ns A) pc (lv, (st, M))
section SO
variable {T : Nat → am_Me} {I : am_In} {pc : Nat}
theorem am_ok_st {lv : am_LV} {st st' : List am_V} {M : am_W} (h : am_ok (lv, (st, M))) (h' : ∀ v ∈ st', am_ov v) : am_ok (lv, (st', M)) := ⟨h.1, h', h.2.2⟩
theorem am_ok_h {lv : am_LV} {v : am_V} {st : List am_V} {M : am_W} (h : am_ok (lv, (v :: st, M))) : am_ov v := h.2.1 _ List.mem_cons_self
theorem am_ok_t {lv : am_LV} {v : am_V} {st : List am_V} {M : am_W} (h : am_ok (lv, (v :: st, M))) : am_ok (lv, (st, M)) := ⟨h.1, fun w hw => h.2.1 w (List.mem_cons_of_mem _ hw), h.2.2⟩
theorem am_ok_c {lv : am_LV} {v : am_V} {st : List am_V} {M : am_W} (hv : am_ov v) (h : am_ok (lv, (st, M))) : am_ok (lv, (v :: st, M)) := ⟨h.1, fun w hw => (List.mem_cons.mp hw).elim (fun e => e ▸ hv) (h.2.1 w), h.2.2⟩
theorem am_ok_1 {lv : am_LV} {i : Nat} {v : am_V} {st : List am_V} {M : am_W} (hv : am_ov v) (h : am_ok (lv, (st, M))) : am_ok (am_st1 lv i v, (st, M)) := ⟨fun q hq => (List.mem_cons.mp hq).elim (fun e => by rw [e]; exact hv) (fun hq => h.1 q (List.mem_filter.mp hq).1), h.2⟩
theorem am_ok_2 {lv : am_LV} {i : Nat} {v : am_V} {st : List am_V} {M : am_W} (hv : am_ov v) (h : am_ok (lv, (st, M))) : am_ok (am_st2 lv i v, (st, M)) := ⟨fun q hq => (List.mem_cons.mp hq).elim (fun e => by rw [e]; exact hv) (fun hq => h.1 q (List.mem_filter.mp hq).1), h.2⟩
theorem so_none : am_So T I pc (fun _ => none) := by
  intro ad ca D A nc ns p l e R s m args below meth c C lv st M ok
  exact True.intro
theorem so_iload_n {i : Nat} {k : Fin 4} (hd : decode I.1 pc = .ok (.iload_n k, 1)) (hi : (k : Nat) = i) : am_So T I pc (op_li i (pc + 1)) := by
  intro ad ca D A nc ns p l e R s m args below meth c C lv st M ok
  have C0 := C
  obtain ⟨hx, hb, hr, hml, hown, hlk, hen, hro, hK, hnc, hns, hf1, hl1⟩ := C
  unfold op_li
  dsimp only
  cases hg : am_get lv i with
  | none => exact True.intro
  | some v =>
    rcases v with x | x | q
    · refine ⟨am_ok_c (ok.1 _ (am_get_mem hg)) ok, fun Q K H locs ls hW hS hl => ?_⟩
      exact lv_iload_n hx hb hd hi (am_get_at hg hl) (K H locs ls hW hS hl)
    · exact True.intro
    · exact True.intro
theorem so_iload {i : Nat} (hd : decode I.1 pc = .ok (.iload i, 2)) : am_So T I pc (op_li i (pc + 2)) := by
  intro ad ca D A nc ns p l e R s m args below meth c C lv st M ok
  have C0 := C
  obtain ⟨hx, hb, hr, hml, hown, hlk, hen, hro, hK, hnc, hns, hf1, hl1⟩ := C
  unfold op_li
  dsimp only
  cases hg : am_get lv i with
  | none => exact True.intro
  | some v =>
    rcases v with x | x | q
    · refine ⟨am_ok_c (ok.1 _ (am_get_mem hg)) ok, fun Q K H locs ls hW hS hl => ?_⟩
      exact lv_iload hx hb hd (am_get_at hg hl) (K H locs ls hW hS hl)
    · exact True.intro
    · exact True.intro
theorem so_lload_n {i : Nat} {k : Fin 4} (hd : decode I.1 pc = .ok (.lload_n k, 1)) (hi : (k : Nat) = i) : am_So T I pc (op_lj i (pc + 1)) := by
  intro ad ca D A nc ns p l e R s m args below meth c C lv st M ok
  have C0 := C
  obtain ⟨hx, hb, hr, hml, hown, hlk, hen, hro, hK, hnc, hns, hf1, hl1⟩ := C
  unfold op_lj
  dsimp only
  cases hg : am_get lv i with
  | none => exact True.intro
  | some v =>
    rcases v with x | x | q
    · exact True.intro
    · refine ⟨am_ok_c (ok.1 _ (am_get_mem hg)) ok, fun Q K H locs ls hW hS hl => ?_⟩
      exact lv_lload_n hx hb hd hi (am_get_at hg hl) (K H locs ls hW hS hl)
    · exact True.intro
theorem so_lload {i : Nat} (hd : decode I.1 pc = .ok (.lload i, 2)) : am_So T I pc (op_lj i (pc + 2)) := by
  intro ad ca D A nc ns p l e R s m args below meth c C lv st M ok
  have C0 := C
  obtain ⟨hx, hb, hr, hml, hown, hlk, hen, hro, hK, hnc, hns, hf1, hl1⟩ := C
  unfold op_lj
  dsimp only
  cases hg : am_get lv i with
  | none => exact True.intro
  | some v =>
    rcases v with x | x | q
    · exact True.intro
    · refine ⟨am_ok_c (ok.1 _ (am_get_mem hg)) ok, fun Q K H locs ls hW hS hl => ?_⟩
      exact lv_lload hx hb hd (am_get_at hg hl) (K H locs ls hW hS hl)
    · exact True.intro
theorem so_aload_n {i : Nat} {k : Fin 4} (hd : decode I.1 pc = .ok (.aload_n k, 1)) (hi : (k : Nat) = i) : am_So T I pc (op_lr i (pc + 1)) := by
  intro ad ca D A nc ns p l e R s m args below meth c C lv st M ok
  have C0 := C
  obtain ⟨hx, hb, hr, hml, hown, hlk, hen, hro, hK, hnc, hns, hf1, hl1⟩ := C
  unfold op_lr
  dsimp only
  cases hg : am_get lv i with
  | none => exact True.intro
  | some v =>
    rcases v with x | x | q
    · exact True.intro
    · exact True.intro
    · refine ⟨am_ok_c (ok.1 _ (am_get_mem hg)) ok, fun Q K H locs ls hW hS hl => ?_⟩
      exact lv_aload_n hx hb hd hi (am_get_at hg hl) (K H locs ls hW hS hl)
theorem so_aload {i : Nat} (hd : decode I.1 pc = .ok (.aload i, 2)) : am_So T I pc (op_lr i (pc + 2)) := by
  intro ad ca D A nc ns p l e R s m args below meth c C lv st M ok
  have C0 := C
  obtain ⟨hx, hb, hr, hml, hown, hlk, hen, hro, hK, hnc, hns, hf1, hl1⟩ := C
  unfold op_lr
  dsimp only
  cases hg : am_get lv i with
  | none => exact True.intro
  | some v =>
    rcases v with x | x | q
    · exact True.intro
    · exact True.intro
    · refine ⟨am_ok_c (ok.1 _ (am_get_mem hg)) ok, fun Q K H locs ls hW hS hl => ?_⟩
      exact lv_aload hx hb hd (am_get_at hg hl) (K H locs ls hW hS hl)
theorem so_iconst {n : Int} {v : Int32} (hd : decode I.1 pc = .ok (.iconst n, 1)) (hv : Int32.ofInt n = v) : am_So T I pc (op_c v (pc + 1)) := by
  intro ad ca D A nc ns p l e R s m args below meth c C lv st M ok
  have C0 := C
  obtain ⟨hx, hb, hr, hml, hown, hlk, hen, hro, hK, hnc, hns, hf1, hl1⟩ := C
  exact ⟨am_ok_c True.intro ok, fun Q K H locs ls hW hS hl => lv_iconst hx hb hd hv (K H locs ls hW hS hl)⟩
theorem so_bipush {n : Int} {v : Int32} (hd : decode I.1 pc = .ok (.bipush n, 2)) (hv : (Int8.ofInt n).toInt32 = v) : am_So T I pc (op_c v (pc + 2)) := by
  intro ad ca D A nc ns p l e R s m args below meth c C lv st M ok
  have C0 := C
  obtain ⟨hx, hb, hr, hml, hown, hlk, hen, hro, hK, hnc, hns, hf1, hl1⟩ := C
  exact ⟨am_ok_c True.intro ok, fun Q K H locs ls hW hS hl => lv_bipush hx hb hd hv (K H locs ls hW hS hl)⟩
theorem so_sipush {n : Int} {v : Int32} (hd : decode I.1 pc = .ok (.sipush n, 3)) (hv : (Int16.ofInt n).toInt32 = v) : am_So T I pc (op_c v (pc + 3)) := by
  intro ad ca D A nc ns p l e R s m args below meth c C lv st M ok
  have C0 := C
  obtain ⟨hx, hb, hr, hml, hown, hlk, hen, hro, hK, hnc, hns, hf1, hl1⟩ := C
  exact ⟨am_ok_c True.intro ok, fun Q K H locs ls hW hS hl => lv_sipush hx hb hd hv (K H locs ls hW hS hl)⟩
theorem so_ldc {index : Nat} {v : Int32} (hw : Cond.constant I.2.2.2 index v ∈ lw_tbl) (hd : decode I.1 pc = .ok (.ldc index, 2)) : am_So T I pc (op_c v (pc + 2)) := by
  intro ad ca D A nc ns p l e R s m args below meth c C lv st M ok
  have C0 := C
  obtain ⟨hx, hb, hr, hml, hown, hlk, hen, hro, hK, hnc, hns, hf1, hl1⟩ := C
  exact ⟨am_ok_c True.intro ok, fun Q K H locs ls hW hS hl => lv_ldc hx hb hown (va_Nw.use rfl (hen _ hw rfl)) hd (K H locs ls hW hS hl)⟩
theorem so_ldc2 {index : Nat} {v : Int64} (hw : Cond.constantLong I.2.2.2 index v ∈ lw_tbl) (hd : decode I.1 pc = .ok (.ldc2_w index, 3)) : am_So T I pc (op_cj v (pc + 3)) := by
  intro ad ca D A nc ns p l e R s m args below meth c C lv st M ok
  have C0 := C
  obtain ⟨hx, hb, hr, hml, hown, hlk, hen, hro, hK, hnc, hns, hf1, hl1⟩ := C
  exact ⟨am_ok_c True.intro ok, fun Q K H locs ls hW hS hl => lv_ldc2 hx hb hown (va_Nw.use rfl (hen _ hw rfl)) hd (K H locs ls hW hS hl)⟩
theorem so_istore_n {i : Nat} {k : Fin 4} (hd : decode I.1 pc = .ok (.istore_n k, 1)) (hi : (k : Nat) = i) (hn : i < I.2.1) : am_So T I pc (op_ist i (pc + 1)) := by
  intro ad ca D A nc ns p l e R s m args below meth c C lv st M ok
  have C0 := C
  obtain ⟨hx, hb, hr, hml, hown, hlk, hen, hro, hK, hnc, hns, hf1, hl1⟩ := C
  unfold op_ist
  dsimp only
  rcases st with _ | ⟨x | x | q, st⟩
  · exact True.intro
  · refine ⟨am_ok_1 (am_ok_h ok) (am_ok_t ok), fun Q K H locs ls hW hS hl => ?_⟩
    exact lv_istore_n hx hb hd hi hl hn (am_st1_map ad lv i (am_I x)).symm (fun ls' hl' => K H locs ls' hW hS hl')
  · exact True.intro
  · exact True.intro
theorem so_istore {i : Nat} (hd : decode I.1 pc = .ok (.istore i, 2)) (hn : i < I.2.1) : am_So T I pc (op_ist i (pc + 2)) := by
  intro ad ca D A nc ns p l e R s m args below meth c C lv st M ok
  have C0 := C
  obtain ⟨hx, hb, hr, hml, hown, hlk, hen, hro, hK, hnc, hns, hf1, hl1⟩ := C
  unfold op_ist
  dsimp only
  rcases st with _ | ⟨x | x | q, st⟩
  · exact True.intro
  · refine ⟨am_ok_1 (am_ok_h ok) (am_ok_t ok), fun Q K H locs ls hW hS hl => ?_⟩
    exact lv_istore hx hb hd hl hn (am_st1_map ad lv i (am_I x)).symm (fun ls' hl' => K H locs ls' hW hS hl')
  · exact True.intro
  · exact True.intro
theorem so_astore_n {i : Nat} {k : Fin 4} (hd : decode I.1 pc = .ok (.astore_n k, 1)) (hi : (k : Nat) = i) (hn : i < I.2.1) : am_So T I pc (op_ast i (pc + 1)) := by
  intro ad ca D A nc ns p l e R s m args below meth c C lv st M ok
  have C0 := C
  obtain ⟨hx, hb, hr, hml, hown, hlk, hen, hro, hK, hnc, hns, hf1, hl1⟩ := C
  unfold op_ast
  dsimp only
  rcases st with _ | ⟨x | x | q, st⟩
  · exact True.intro
  · exact True.intro
  · exact True.intro
  · refine ⟨am_ok_1 (am_ok_h ok) (am_ok_t ok), fun Q K H locs ls hW hS hl => ?_⟩
    exact lv_astore_n hx hb hd hi hl hn (am_st1_map ad lv i (.inr (.inr q))).symm (fun ls' hl' => K H locs ls' hW hS hl')
theorem so_astore {i : Nat} (hd : decode I.1 pc = .ok (.astore i, 2)) (hn : i < I.2.1) : am_So T I pc (op_ast i (pc + 2)) := by
  intro ad ca D A nc ns p l e R s m args below meth c C lv st M ok
  have C0 := C
  obtain ⟨hx, hb, hr, hml, hown, hlk, hen, hro, hK, hnc, hns, hf1, hl1⟩ := C
  unfold op_ast
  dsimp only
  rcases st with _ | ⟨x | x | q, st⟩
  · exact True.intro
  · exact True.intro
  · exact True.intro
  · refine ⟨am_ok_1 (am_ok_h ok) (am_ok_t ok), fun Q K H locs ls hW hS hl => ?_⟩
    exact lv_astore hx hb hd hl hn (am_st1_map ad lv i (.inr (.inr q))).symm (fun ls' hl' => K H locs ls' hW hS hl')
theorem so_lstore_n {i : Nat} {k : Fin 4} (hd : decode I.1 pc = .ok (.lstore_n k, 1)) (hi : (k : Nat) = i) (hn : i + 1 < I.2.1) : am_So T I pc (op_lst i (pc + 1)) := by
  intro ad ca D A nc ns p l e R s m args below meth c C lv st M ok
  have C0 := C
  obtain ⟨hx, hb, hr, hml, hown, hlk, hen, hro, hK, hnc, hns, hf1, hl1⟩ := C
  unfold op_lst
  dsimp only
  rcases st with _ | ⟨x | x | q, st⟩
  · exact True.intro
  · exact True.intro
  · refine ⟨am_ok_2 (am_ok_h ok) (am_ok_t ok), fun Q K H locs ls hW hS hl => ?_⟩
    exact lv_lstore_n hx hb hd hi hl hn (am_st2_map ad lv i (am_J x)).symm (fun ls' hl' => K H locs ls' hW hS hl')
  · exact True.intro
theorem so_lstore {i : Nat} (hd : decode I.1 pc = .ok (.lstore i, 2)) (hn : i + 1 < I.2.1) : am_So T I pc (op_lst i (pc + 2)) := by
  intro ad ca D A nc ns p l e R s m args below meth c C lv st M ok
  have C0 := C
  obtain ⟨hx, hb, hr, hml, hown, hlk, hen, hro, hK, hnc, hns, hf1, hl1⟩ := C
  unfold op_lst
  dsimp only
  rcases st with _ | ⟨x | x | q, st⟩
  · exact True.intro
  · exact True.intro
  · refine ⟨am_ok_2 (am_ok_h ok) (am_ok_t ok), fun Q K H locs ls hW hS hl => ?_⟩
    exact lv_lstore hx hb hd hl hn (am_st2_map ad lv i (am_J x)).symm (fun ls' hl' => K H locs ls' hW hS hl')
  · exact True.intro
theorem so_iinc {i : Nat} {n : Int} {v : Int32} (hd : decode I.1 pc = .ok (.iinc i n, 3)) (hv : Int32.ofInt n = v) (hn : i < I.2.1) : am_So T I pc (op_iinc i v (pc + 3)) := by
  intro ad ca D A nc ns p l e R s m args below meth c C lv st M ok
  have C0 := C
  obtain ⟨hx, hb, hr, hml, hown, hlk, hen, hro, hK, hnc, hns, hf1, hl1⟩ := C
  unfold op_iinc
  dsimp only
  cases hg : am_get lv i with
  | none => exact True.intro
  | some w =>
    rcases w with x | x | q
    · refine ⟨am_ok_1 True.intro ok, fun Q K H locs ls hW hS hl => ?_⟩
      obtain ⟨k, hk⟩ := List.mem_iff_getElem?.mp (am_get_mem hg)
      exact lv_iinc (k := k) hx hb hd hl (by rw [List.getElem?_map, hk]; rfl) (by rw [hv]) hn (am_st1_map ad lv i (am_I (x + v))).symm (fun ls' hl' => K H locs ls' hW hS hl')
    · exact True.intro
    · exact True.intro
theorem so_iadd (hd : decode I.1 pc = .ok (.iadd, 1)) : am_So T I pc (op_ii (fun x y => x + y) (pc + 1)) := by
  intro ad ca D A nc ns p l e R s m args below meth c C lv st M ok
  have C0 := C
  obtain ⟨hx, hb, hr, hml, hown, hlk, hen, hro, hK, hnc, hns, hf1, hl1⟩ := C
  unfold op_ii
  dsimp only
  rcases st with _ | ⟨y | y | y, _ | ⟨x | x | x, st⟩⟩
  · exact True.intro
  · exact True.intro
  · exact ⟨am_ok_c True.intro (am_ok_t (am_ok_t ok)), fun Q K H locs ls hW hS hl => lv_iadd hx hb hd (K H locs ls hW hS hl)⟩
  · exact True.intro
  · exact True.intro
  · exact True.intro
  · exact True.intro
  · exact True.intro
  · exact True.intro
  · exact True.intro
  · exact True.intro
  · exact True.intro
  · exact True.intro
theorem so_isub (hd : decode I.1 pc = .ok (.isub, 1)) : am_So T I pc (op_ii (fun x y => x - y) (pc + 1)) := by
  intro ad ca D A nc ns p l e R s m args below meth c C lv st M ok
  have C0 := C
  obtain ⟨hx, hb, hr, hml, hown, hlk, hen, hro, hK, hnc, hns, hf1, hl1⟩ := C
  unfold op_ii
  dsimp only
  rcases st with _ | ⟨y | y | y, _ | ⟨x | x | x, st⟩⟩
  · exact True.intro
  · exact True.intro
  · exact ⟨am_ok_c True.intro (am_ok_t (am_ok_t ok)), fun Q K H locs ls hW hS hl => lv_isub hx hb hd (K H locs ls hW hS hl)⟩
  · exact True.intro
  · exact True.intro
  · exact True.intro
  · exact True.intro
  · exact True.intro
  · exact True.intro
  · exact True.intro
  · exact True.intro
  · exact True.intro
  · exact True.intro
theorem so_imul (hd : decode I.1 pc = .ok (.imul, 1)) : am_So T I pc (op_ii (fun x y => x * y) (pc + 1)) := by
  intro ad ca D A nc ns p l e R s m args below meth c C lv st M ok
  have C0 := C
  obtain ⟨hx, hb, hr, hml, hown, hlk, hen, hro, hK, hnc, hns, hf1, hl1⟩ := C
  unfold op_ii
  dsimp only
  rcases st with _ | ⟨y | y | y, _ | ⟨x | x | x, st⟩⟩
  · exact True.intro
  · exact True.intro
  · exact ⟨am_ok_c True.intro (am_ok_t (am_ok_t ok)), fun Q K H locs ls hW hS hl => lv_imul hx hb hd (K H locs ls hW hS hl)⟩
  · exact True.intro
  · exact True.intro
  · exact True.intro
  · exact True.intro
  · exact True.intro
  · exact True.intro
  · exact True.intro
  · exact True.intro
  · exact True.intro
  · exact True.intro
theorem so_iand (hd : decode I.1 pc = .ok (.iand, 1)) : am_So T I pc (op_ii (fun x y => x &&& y) (pc + 1)) := by
  intro ad ca D A nc ns p l e R s m args below meth c C lv st M ok
  have C0 := C
  obtain ⟨hx, hb, hr, hml, hown, hlk, hen, hro, hK, hnc, hns, hf1, hl1⟩ := C
  unfold op_ii
  dsimp only
  rcases st with _ | ⟨y | y | y, _ | ⟨x | x | x, st⟩⟩
  · exact True.intro
  · exact True.intro
  · exact ⟨am_ok_c True.intro (am_ok_t (am_ok_t ok)), fun Q K H locs ls hW hS hl => lv_iand hx hb hd (K H locs ls hW hS hl)⟩
  · exact True.intro
  · exact True.intro
  · exact True.intro
  · exact True.intro
  · exact True.intro
  · exact True.intro
  · exact True.intro
  · exact True.intro
  · exact True.intro
  · exact True.intro
theorem so_ior (hd : decode I.1 pc = .ok (.ior, 1)) : am_So T I pc (op_ii (fun x y => x ||| y) (pc + 1)) := by
  intro ad ca D A nc ns p l e R s m args below meth c C lv st M ok
  have C0 := C
  obtain ⟨hx, hb, hr, hml, hown, hlk, hen, hro, hK, hnc, hns, hf1, hl1⟩ := C
  unfold op_ii
  dsimp only
  rcases st with _ | ⟨y | y | y, _ | ⟨x | x | x, st⟩⟩
  · exact True.intro
  · exact True.intro
  · exact ⟨am_ok_c True.intro (am_ok_t (am_ok_t ok)), fun Q K H locs ls hW hS hl => lv_ior hx hb hd (K H locs ls hW hS hl)⟩
  · exact True.intro
  · exact True.intro
  · exact True.intro
  · exact True.intro
  · exact True.intro
  · exact True.intro
  · exact True.intro
  · exact True.intro
  · exact True.intro
  · exact True.intro
theorem so_ishl (hd : decode I.1 pc = .ok (.ishl, 1)) : am_So T I pc (op_ii (fun x y => x <<< (y &&& 31)) (pc + 1)) := by
  intro ad ca D A nc ns p l e R s m args below meth c C lv st M ok
  have C0 := C
  obtain ⟨hx, hb, hr, hml, hown, hlk, hen, hro, hK, hnc, hns, hf1, hl1⟩ := C
  unfold op_ii
  dsimp only
  rcases st with _ | ⟨y | y | y, _ | ⟨x | x | x, st⟩⟩
  · exact True.intro
  · exact True.intro
  · exact ⟨am_ok_c True.intro (am_ok_t (am_ok_t ok)), fun Q K H locs ls hW hS hl => lv_ishl hx hb hd (K H locs ls hW hS hl)⟩
  · exact True.intro
  · exact True.intro
  · exact True.intro
  · exact True.intro
  · exact True.intro
  · exact True.intro
  · exact True.intro
  · exact True.intro
  · exact True.intro
  · exact True.intro
theorem so_ishr (hd : decode I.1 pc = .ok (.ishr, 1)) : am_So T I pc (op_ii (fun x y => x >>> (y &&& 31)) (pc + 1)) := by
  intro ad ca D A nc ns p l e R s m args below meth c C lv st M ok
  have C0 := C
  obtain ⟨hx, hb, hr, hml, hown, hlk, hen, hro, hK, hnc, hns, hf1, hl1⟩ := C
  unfold op_ii
  dsimp only
  rcases st with _ | ⟨y | y | y, _ | ⟨x | x | x, st⟩⟩
  · exact True.intro
  · exact True.intro
  · exact ⟨am_ok_c True.intro (am_ok_t (am_ok_t ok)), fun Q K H locs ls hW hS hl => lv_ishr hx hb hd (K H locs ls hW hS hl)⟩
  · exact True.intro
  · exact True.intro
  · exact True.intro
  · exact True.intro
  · exact True.intro
  · exact True.intro
  · exact True.intro
  · exact True.intro
  · exact True.intro
  · exact True.intro
theorem so_idiv (hd : decode I.1 pc = .ok (.idiv, 1)) : am_So T I pc (op_iid (fun x y => x / y) (pc + 1)) := by
  intro ad ca D A nc ns p l e R s m args below meth c C lv st M ok
  have C0 := C
  obtain ⟨hx, hb, hr, hml, hown, hlk, hen, hro, hK, hnc, hns, hf1, hl1⟩ := C
  unfold op_iid
  dsimp only
  rcases st with _ | ⟨y | y | y, _ | ⟨x | x | x, st⟩⟩
  · exact True.intro
  · exact True.intro
  · dsimp only
    by_cases hy : y = 0
    · rw [if_neg (fun h => h hy)]
      exact True.intro
    · rw [if_pos hy]
      exact ⟨am_ok_c True.intro (am_ok_t (am_ok_t ok)), fun Q K H locs ls hW hS hl => lv_idiv hx hb hd hy (K H locs ls hW hS hl)⟩
  · exact True.intro
  · exact True.intro
  · exact True.intro
  · exact True.intro
  · exact True.intro
  · exact True.intro
  · exact True.intro
  · exact True.intro
  · exact True.intro
  · exact True.intro
theorem so_irem (hd : decode I.1 pc = .ok (.irem, 1)) : am_So T I pc (op_iid (fun x y => x - x / y * y) (pc + 1)) := by
  intro ad ca D A nc ns p l e R s m args below meth c C lv st M ok
  have C0 := C
  obtain ⟨hx, hb, hr, hml, hown, hlk, hen, hro, hK, hnc, hns, hf1, hl1⟩ := C
  unfold op_iid
  dsimp only
  rcases st with _ | ⟨y | y | y, _ | ⟨x | x | x, st⟩⟩
  · exact True.intro
  · exact True.intro
  · dsimp only
    by_cases hy : y = 0
    · rw [if_neg (fun h => h hy)]
      exact True.intro
    · rw [if_pos hy]
      exact ⟨am_ok_c True.intro (am_ok_t (am_ok_t ok)), fun Q K H locs ls hW hS hl => lv_irem hx hb hd hy (K H locs ls hW hS hl)⟩
  · exact True.intro
  · exact True.intro
  · exact True.intro
  · exact True.intro
  · exact True.intro
  · exact True.intro
  · exact True.intro
  · exact True.intro
  · exact True.intro
  · exact True.intro
theorem so_ladd (hd : decode I.1 pc = .ok (.ladd, 1)) : am_So T I pc (op_jj (fun x y => x + y) (pc + 1)) := by
  intro ad ca D A nc ns p l e R s m args below meth c C lv st M ok
  have C0 := C
  obtain ⟨hx, hb, hr, hml, hown, hlk, hen, hro, hK, hnc, hns, hf1, hl1⟩ := C
  unfold op_jj
  dsimp only
  rcases st with _ | ⟨y | y | y, _ | ⟨x | x | x, st⟩⟩
  · exact True.intro
  · exact True.intro
  · exact True.intro
  · exact True.intro
  · exact True.intro
  · exact True.intro
  · exact True.intro
  · exact ⟨am_ok_c True.intro (am_ok_t (am_ok_t ok)), fun Q K H locs ls hW hS hl => lv_ladd hx hb hd (K H locs ls hW hS hl)⟩
  · exact True.intro
  · exact True.intro
  · exact True.intro
  · exact True.intro
  · exact True.intro
theorem so_lmul (hd : decode I.1 pc = .ok (.lmul, 1)) : am_So T I pc (op_jj (fun x y => x * y) (pc + 1)) := by
  intro ad ca D A nc ns p l e R s m args below meth c C lv st M ok
  have C0 := C
  obtain ⟨hx, hb, hr, hml, hown, hlk, hen, hro, hK, hnc, hns, hf1, hl1⟩ := C
  unfold op_jj
  dsimp only
  rcases st with _ | ⟨y | y | y, _ | ⟨x | x | x, st⟩⟩
  · exact True.intro
  · exact True.intro
  · exact True.intro
  · exact True.intro
  · exact True.intro
  · exact True.intro
  · exact True.intro
  · exact ⟨am_ok_c True.intro (am_ok_t (am_ok_t ok)), fun Q K H locs ls hW hS hl => lv_lmul hx hb hd (K H locs ls hW hS hl)⟩
  · exact True.intro
  · exact True.intro
  · exact True.intro
  · exact True.intro
  · exact True.intro
theorem so_land (hd : decode I.1 pc = .ok (.land, 1)) : am_So T I pc (op_jj (fun x y => x &&& y) (pc + 1)) := by
  intro ad ca D A nc ns p l e R s m args below meth c C lv st M ok
  have C0 := C
  obtain ⟨hx, hb, hr, hml, hown, hlk, hen, hro, hK, hnc, hns, hf1, hl1⟩ := C
  unfold op_jj
  dsimp only
  rcases st with _ | ⟨y | y | y, _ | ⟨x | x | x, st⟩⟩
  · exact True.intro
  · exact True.intro
  · exact True.intro
  · exact True.intro
  · exact True.intro
  · exact True.intro
  · exact True.intro
  · exact ⟨am_ok_c True.intro (am_ok_t (am_ok_t ok)), fun Q K H locs ls hW hS hl => lv_land hx hb hd (K H locs ls hW hS hl)⟩
  · exact True.intro
  · exact True.intro
  · exact True.intro
  · exact True.intro
  · exact True.intro
theorem so_ldiv (hd : decode I.1 pc = .ok (.ldiv, 1)) : am_So T I pc (op_jjd (fun x y => x / y) (pc + 1)) := by
  intro ad ca D A nc ns p l e R s m args below meth c C lv st M ok
  have C0 := C
  obtain ⟨hx, hb, hr, hml, hown, hlk, hen, hro, hK, hnc, hns, hf1, hl1⟩ := C
  unfold op_jjd
  dsimp only
  rcases st with _ | ⟨y | y | y, _ | ⟨x | x | x, st⟩⟩
  · exact True.intro
  · exact True.intro
  · exact True.intro
  · exact True.intro
  · exact True.intro
  · exact True.intro
  · exact True.intro
  · dsimp only
    by_cases hy : y = 0
    · rw [if_neg (fun h => h hy)]
      exact True.intro
    · rw [if_pos hy]
      exact ⟨am_ok_c True.intro (am_ok_t (am_ok_t ok)), fun Q K H locs ls hW hS hl => lv_ldiv hx hb hd hy (K H locs ls hW hS hl)⟩
  · exact True.intro
  · exact True.intro
  · exact True.intro
  · exact True.intro
  · exact True.intro
theorem so_lrem (hd : decode I.1 pc = .ok (.lrem, 1)) : am_So T I pc (op_jjd (fun x y => x - x / y * y) (pc + 1)) := by
  intro ad ca D A nc ns p l e R s m args below meth c C lv st M ok
  have C0 := C
  obtain ⟨hx, hb, hr, hml, hown, hlk, hen, hro, hK, hnc, hns, hf1, hl1⟩ := C
  unfold op_jjd
  dsimp only
  rcases st with _ | ⟨y | y | y, _ | ⟨x | x | x, st⟩⟩
  · exact True.intro
  · exact True.intro
  · exact True.intro
  · exact True.intro
  · exact True.intro
  · exact True.intro
  · exact True.intro
  · dsimp only
    by_cases hy : y = 0
    · rw [if_neg (fun h => h hy)]
      exact True.intro
    · rw [if_pos hy]
      exact ⟨am_ok_c True.intro (am_ok_t (am_ok_t ok)), fun Q K H locs ls hW hS hl => lv_lrem hx hb hd hy (K H locs ls hW hS hl)⟩
  · exact True.intro
  · exact True.intro
  · exact True.intro
  · exact True.intro
  · exact True.intro
theorem so_lcmp (hd : decode I.1 pc = .ok (.lcmp, 1)) : am_So T I pc (op_jji (lg_cmp) (pc + 1)) := by
  intro ad ca D A nc ns p l e R s m args below meth c C lv st M ok
  have C0 := C
  obtain ⟨hx, hb, hr, hml, hown, hlk, hen, hro, hK, hnc, hns, hf1, hl1⟩ := C
  unfold op_jji
  dsimp only
  rcases st with _ | ⟨y | y | y, _ | ⟨x | x | x, st⟩⟩
  · exact True.intro
  · exact True.intro
  · exact True.intro
  · exact True.intro
  · exact True.intro
  · exact True.intro
  · exact True.intro
  · exact ⟨am_ok_c True.intro (am_ok_t (am_ok_t ok)), fun Q K H locs ls hW hS hl => W.lcmp hx hb hd (K H locs ls hW hS hl)⟩
  · exact True.intro
  · exact True.intro
  · exact True.intro
  · exact True.intro
  · exact True.intro
theorem so_i2l (hd : decode I.1 pc = .ok (.i2l, 1)) : am_So T I pc (op_i2l (pc + 1)) := by
  intro ad ca D A nc ns p l e R s m args below meth c C lv st M ok
  have C0 := C
  obtain ⟨hx, hb, hr, hml, hown, hlk, hen, hro, hK, hnc, hns, hf1, hl1⟩ := C
  unfold op_i2l
  dsimp only
  rcases st with _ | ⟨x | x | x, st⟩
  · exact True.intro
  · exact ⟨am_ok_c True.intro (am_ok_t ok), fun Q K H locs ls hW hS hl => lv_i2l hx hb hd rfl (K H locs ls hW hS hl)⟩
  · exact True.intro
  · exact True.intro
theorem so_l2i (hd : decode I.1 pc = .ok (.l2i, 1)) : am_So T I pc (op_l2i (pc + 1)) := by
  intro ad ca D A nc ns p l e R s m args below meth c C lv st M ok
  have C0 := C
  obtain ⟨hx, hb, hr, hml, hown, hlk, hen, hro, hK, hnc, hns, hf1, hl1⟩ := C
  unfold op_l2i
  dsimp only
  rcases st with _ | ⟨x | x | x, st⟩
  · exact True.intro
  · exact True.intro
  · exact ⟨am_ok_c True.intro (am_ok_t ok), fun Q K H locs ls hW hS hl => lv_l2i hx hb hd rfl (K H locs ls hW hS hl)⟩
  · exact True.intro
theorem so_i2b (hd : decode I.1 pc = .ok (.i2b, 1)) : am_So T I pc (op_i2b (pc + 1)) := by
  intro ad ca D A nc ns p l e R s m args below meth c C lv st M ok
  have C0 := C
  obtain ⟨hx, hb, hr, hml, hown, hlk, hen, hro, hK, hnc, hns, hf1, hl1⟩ := C
  unfold op_i2b
  dsimp only
  rcases st with _ | ⟨x | x | x, st⟩
  · exact True.intro
  · exact ⟨am_ok_c True.intro (am_ok_t ok), fun Q K H locs ls hW hS hl => lv_i2b hx hb hd rfl (K H locs ls hW hS hl)⟩
  · exact True.intro
  · exact True.intro
theorem so_dup (hd : decode I.1 pc = .ok (.dup, 1)) : am_So T I pc (op_dup (pc + 1)) := by
  intro ad ca D A nc ns p l e R s m args below meth c C lv st M ok
  have C0 := C
  obtain ⟨hx, hb, hr, hml, hown, hlk, hen, hro, hK, hnc, hns, hf1, hl1⟩ := C
  unfold op_dup
  dsimp only
  rcases st with _ | ⟨v, st⟩
  · exact True.intro
  · dsimp only
    cases hv : am_isL v with
    | true => exact True.intro
    | false => exact ⟨am_ok_c (am_ok_h ok) ok, fun Q K H locs ls hW hS hl => lv_dup hx hb hd (am_cat1 ad hv) (K H locs ls hW hS hl)⟩
theorem so_pop (hd : decode I.1 pc = .ok (.pop, 1)) : am_So T I pc (op_pop (pc + 1)) := by
  intro ad ca D A nc ns p l e R s m args below meth c C lv st M ok
  have C0 := C
  obtain ⟨hx, hb, hr, hml, hown, hlk, hen, hro, hK, hnc, hns, hf1, hl1⟩ := C
  unfold op_pop
  dsimp only
  rcases st with _ | ⟨v, st⟩
  · exact True.intro
  · dsimp only
    cases hv : am_isL v with
    | true => exact True.intro
    | false => exact ⟨am_ok_t ok, fun Q K H locs ls hW hS hl => lv_pop hx hb hd (am_cat1 ad hv) (K H locs ls hW hS hl)⟩
theorem so_dup2 (hd : decode I.1 pc = .ok (.dup2, 1)) : am_So T I pc (op_dup2 (pc + 1)) := by
  intro ad ca D A nc ns p l e R s m args below meth c C lv st M ok
  have C0 := C
  obtain ⟨hx, hb, hr, hml, hown, hlk, hen, hro, hK, hnc, hns, hf1, hl1⟩ := C
  unfold op_dup2
  dsimp only
  rcases st with _ | ⟨y | y | y, _ | ⟨x | x | x, st⟩⟩
  · exact True.intro
  · exact True.intro
  · exact True.intro
  · exact True.intro
  · exact ⟨am_ok_c True.intro (am_ok_c (am_ok_h (am_ok_t ok)) ok), fun Q K H locs ls hW hS hl => lv_dup2_11 hx hb hd rfl rfl (K H locs ls hW hS hl)⟩
  · exact True.intro
  · exact True.intro
  · exact True.intro
  · exact True.intro
  · exact True.intro
  · exact True.intro
  · exact True.intro
  · exact True.intro
theorem so_goto {off : Int} {tgt : Nat} (hd : decode I.1 pc = .ok (.goto off, 3)) (ht : (pc : Int) + off = (tgt : Int)) : am_So T I pc (op_go tgt) := by
  intro ad ca D A nc ns p l e R s m args below meth c C lv st M ok
  have C0 := C
  obtain ⟨hx, hb, hr, hml, hown, hlk, hen, hro, hK, hnc, hns, hf1, hl1⟩ := C
  exact ⟨ok, fun Q K H locs ls hW hS hl => lv_goto hx hb hd ht (K H locs ls hW hS hl)⟩
theorem so_if_eq {off : Int} {tgt : Nat} (hd : decode I.1 pc = .ok (.ifCond .eq off, 3)) (ht : (pc : Int) + off = (tgt : Int)) : am_So T I pc (op_if (fun x => x = 0) tgt (pc + 3)) := by
  intro ad ca D A nc ns p l e R s m args below meth c C lv st M ok
  have C0 := C
  obtain ⟨hx, hb, hr, hml, hown, hlk, hen, hro, hK, hnc, hns, hf1, hl1⟩ := C
  unfold op_if
  dsimp only
  rcases st with _ | ⟨x | x | x, st⟩
  · exact True.intro
  · refine ⟨am_ok_t ok, fun Q K H locs ls hW hS hl => ?_⟩
    refine lv_if_eq hx hb hd ht (fun h => ?_) (fun h => ?_)
    · have K := K H locs ls hW hS hl
      rwa [if_pos h] at K
    · have K := K H locs ls hW hS hl
      first | rwa [if_neg h] at K | rwa [if_neg (fun h2 => h2 h)] at K
  · exact True.intro
  · exact True.intro
theorem so_ic_eq {off : Int} {tgt : Nat} (hd : decode I.1 pc = .ok (.if_icmp .eq off, 3)) (ht : (pc : Int) + off = (tgt : Int)) : am_So T I pc (op_ic (fun x y => x = y) tgt (pc + 3)) := by
  intro ad ca D A nc ns p l e R s m args below meth c C lv st M ok
  have C0 := C
  obtain ⟨hx, hb, hr, hml, hown, hlk, hen, hro, hK, hnc, hns, hf1, hl1⟩ := C
  unfold op_ic
  dsimp only
  rcases st with _ | ⟨y | y | y, _ | ⟨x | x | x, st⟩⟩
  · exact True.intro
  · exact True.intro
  · refine ⟨am_ok_t (am_ok_t ok), fun Q K H locs ls hW hS hl => ?_⟩
    refine lv_icmp_eq hx hb hd ht (fun h => ?_) (fun h => ?_)
    · have K := K H locs ls hW hS hl
      rwa [if_pos h] at K
    · have K := K H locs ls hW hS hl
      first | rwa [if_neg h] at K | rwa [if_neg (fun h2 => h2 h)] at K
  · exact True.intro
  · exact True.intro
  · exact True.intro
  · exact True.intro
  · exact True.intro
  · exact True.intro
  · exact True.intro
  · exact True.intro
  · exact True.intro
  · exact True.intro
theorem so_if_ne {off : Int} {tgt : Nat} (hd : decode I.1 pc = .ok (.ifCond .ne off, 3)) (ht : (pc : Int) + off = (tgt : Int)) : am_So T I pc (op_if (fun x => ¬ x = 0) tgt (pc + 3)) := by
  intro ad ca D A nc ns p l e R s m args below meth c C lv st M ok
  have C0 := C
  obtain ⟨hx, hb, hr, hml, hown, hlk, hen, hro, hK, hnc, hns, hf1, hl1⟩ := C
  unfold op_if
  dsimp only
  rcases st with _ | ⟨x | x | x, st⟩
  · exact True.intro
  · refine ⟨am_ok_t ok, fun Q K H locs ls hW hS hl => ?_⟩
    refine lv_if_ne hx hb hd ht (fun h => ?_) (fun h => ?_)
    · have K := K H locs ls hW hS hl
      rwa [if_pos h] at K
    · have K := K H locs ls hW hS hl
      first | rwa [if_neg h] at K | rwa [if_neg (fun h2 => h2 h)] at K
  · exact True.intro
  · exact True.intro
theorem so_ic_ne {off : Int} {tgt : Nat} (hd : decode I.1 pc = .ok (.if_icmp .ne off, 3)) (ht : (pc : Int) + off = (tgt : Int)) : am_So T I pc (op_ic (fun x y => ¬ x = y) tgt (pc + 3)) := by
  intro ad ca D A nc ns p l e R s m args below meth c C lv st M ok
  have C0 := C
  obtain ⟨hx, hb, hr, hml, hown, hlk, hen, hro, hK, hnc, hns, hf1, hl1⟩ := C
  unfold op_ic
  dsimp only
  rcases st with _ | ⟨y | y | y, _ | ⟨x | x | x, st⟩⟩
  · exact True.intro
  · exact True.intro
  · refine ⟨am_ok_t (am_ok_t ok), fun Q K H locs ls hW hS hl => ?_⟩
    refine lv_icmp_ne hx hb hd ht (fun h => ?_) (fun h => ?_)
    · have K := K H locs ls hW hS hl
      rwa [if_pos h] at K
    · have K := K H locs ls hW hS hl
      first | rwa [if_neg h] at K | rwa [if_neg (fun h2 => h2 h)] at K
  · exact True.intro
  · exact True.intro
  · exact True.intro
  · exact True.intro
  · exact True.intro
  · exact True.intro
  · exact True.intro
  · exact True.intro
  · exact True.intro
  · exact True.intro
theorem so_if_lt {off : Int} {tgt : Nat} (hd : decode I.1 pc = .ok (.ifCond .lt off, 3)) (ht : (pc : Int) + off = (tgt : Int)) : am_So T I pc (op_if (fun x => x < 0) tgt (pc + 3)) := by
  intro ad ca D A nc ns p l e R s m args below meth c C lv st M ok
  have C0 := C
  obtain ⟨hx, hb, hr, hml, hown, hlk, hen, hro, hK, hnc, hns, hf1, hl1⟩ := C
  unfold op_if
  dsimp only
  rcases st with _ | ⟨x | x | x, st⟩
  · exact True.intro
  · refine ⟨am_ok_t ok, fun Q K H locs ls hW hS hl => ?_⟩
    refine lv_if_lt hx hb hd ht (fun h => ?_) (fun h => ?_)
    · have K := K H locs ls hW hS hl
      rwa [if_pos h] at K
    · have K := K H locs ls hW hS hl
      first | rwa [if_neg h] at K | rwa [if_neg (fun h2 => h2 h)] at K
  · exact True.intro
  · exact True.intro
theorem so_ic_lt {off : Int} {tgt : Nat} (hd : decode I.1 pc = .ok (.if_icmp .lt off, 3)) (ht : (pc : Int) + off = (tgt : Int)) : am_So T I pc (op_ic (fun x y => x < y) tgt (pc + 3)) := by
  intro ad ca D A nc ns p l e R s m args below meth c C lv st M ok
  have C0 := C
  obtain ⟨hx, hb, hr, hml, hown, hlk, hen, hro, hK, hnc, hns, hf1, hl1⟩ := C
  unfold op_ic
  dsimp only
  rcases st with _ | ⟨y | y | y, _ | ⟨x | x | x, st⟩⟩
  · exact True.intro
  · exact True.intro
  · refine ⟨am_ok_t (am_ok_t ok), fun Q K H locs ls hW hS hl => ?_⟩
    refine lv_icmp_lt hx hb hd ht (fun h => ?_) (fun h => ?_)
    · have K := K H locs ls hW hS hl
      rwa [if_pos h] at K
    · have K := K H locs ls hW hS hl
      first | rwa [if_neg h] at K | rwa [if_neg (fun h2 => h2 h)] at K
  · exact True.intro
  · exact True.intro
  · exact True.intro
  · exact True.intro
  · exact True.intro
  · exact True.intro
  · exact True.intro
  · exact True.intro
  · exact True.intro
  · exact True.intro
theorem so_if_ge {off : Int} {tgt : Nat} (hd : decode I.1 pc = .ok (.ifCond .ge off, 3)) (ht : (pc : Int) + off = (tgt : Int)) : am_So T I pc (op_if (fun x => 0 ≤ x) tgt (pc + 3)) := by
  intro ad ca D A nc ns p l e R s m args below meth c C lv st M ok
  have C0 := C
  obtain ⟨hx, hb, hr, hml, hown, hlk, hen, hro, hK, hnc, hns, hf1, hl1⟩ := C
  unfold op_if
  dsimp only
  rcases st with _ | ⟨x | x | x, st⟩
  · exact True.intro
  · refine ⟨am_ok_t ok, fun Q K H locs ls hW hS hl => ?_⟩
    refine lv_if_ge hx hb hd ht (fun h => ?_) (fun h => ?_)
    · have K := K H locs ls hW hS hl
      rwa [if_pos h] at K
    · have K := K H locs ls hW hS hl
      first | rwa [if_neg h] at K | rwa [if_neg (fun h2 => h2 h)] at K
  · exact True.intro
  · exact True.intro
theorem so_ic_ge {off : Int} {tgt : Nat} (hd : decode I.1 pc = .ok (.if_icmp .ge off, 3)) (ht : (pc : Int) + off = (tgt : Int)) : am_So T I pc (op_ic (fun x y => y ≤ x) tgt (pc + 3)) := by
  intro ad ca D A nc ns p l e R s m args below meth c C lv st M ok
  have C0 := C
  obtain ⟨hx, hb, hr, hml, hown, hlk, hen, hro, hK, hnc, hns, hf1, hl1⟩ := C
  unfold op_ic
  dsimp only
  rcases st with _ | ⟨y | y | y, _ | ⟨x | x | x, st⟩⟩
  · exact True.intro
  · exact True.intro
  · refine ⟨am_ok_t (am_ok_t ok), fun Q K H locs ls hW hS hl => ?_⟩
    refine lv_icmp_ge hx hb hd ht (fun h => ?_) (fun h => ?_)
    · have K := K H locs ls hW hS hl
      rwa [if_pos h] at K
    · have K := K H locs ls hW hS hl
      first | rwa [if_neg h] at K | rwa [if_neg (fun h2 => h2 h)] at K
  · exact True.intro
  · exact True.intro
  · exact True.intro
  · exact True.intro
  · exact True.intro
  · exact True.intro
  · exact True.intro
  · exact True.intro
  · exact True.intro
  · exact True.intro
theorem so_if_gt {off : Int} {tgt : Nat} (hd : decode I.1 pc = .ok (.ifCond .gt off, 3)) (ht : (pc : Int) + off = (tgt : Int)) : am_So T I pc (op_if (fun x => 0 < x) tgt (pc + 3)) := by
  intro ad ca D A nc ns p l e R s m args below meth c C lv st M ok
  have C0 := C
  obtain ⟨hx, hb, hr, hml, hown, hlk, hen, hro, hK, hnc, hns, hf1, hl1⟩ := C
  unfold op_if
  dsimp only
  rcases st with _ | ⟨x | x | x, st⟩
  · exact True.intro
  · refine ⟨am_ok_t ok, fun Q K H locs ls hW hS hl => ?_⟩
    refine lv_if_gt hx hb hd ht (fun h => ?_) (fun h => ?_)
    · have K := K H locs ls hW hS hl
      rwa [if_pos h] at K
    · have K := K H locs ls hW hS hl
      first | rwa [if_neg h] at K | rwa [if_neg (fun h2 => h2 h)] at K
  · exact True.intro
  · exact True.intro
theorem so_ic_gt {off : Int} {tgt : Nat} (hd : decode I.1 pc = .ok (.if_icmp .gt off, 3)) (ht : (pc : Int) + off = (tgt : Int)) : am_So T I pc (op_ic (fun x y => y < x) tgt (pc + 3)) := by
  intro ad ca D A nc ns p l e R s m args below meth c C lv st M ok
  have C0 := C
  obtain ⟨hx, hb, hr, hml, hown, hlk, hen, hro, hK, hnc, hns, hf1, hl1⟩ := C
  unfold op_ic
  dsimp only
  rcases st with _ | ⟨y | y | y, _ | ⟨x | x | x, st⟩⟩
  · exact True.intro
  · exact True.intro
  · refine ⟨am_ok_t (am_ok_t ok), fun Q K H locs ls hW hS hl => ?_⟩
    refine lv_icmp_gt hx hb hd ht (fun h => ?_) (fun h => ?_)
    · have K := K H locs ls hW hS hl
      rwa [if_pos h] at K
    · have K := K H locs ls hW hS hl
      first | rwa [if_neg h] at K | rwa [if_neg (fun h2 => h2 h)] at K
  · exact True.intro
  · exact True.intro
  · exact True.intro
  · exact True.intro
  · exact True.intro
  · exact True.intro
  · exact True.intro
  · exact True.intro
  · exact True.intro
  · exact True.intro
theorem so_if_le {off : Int} {tgt : Nat} (hd : decode I.1 pc = .ok (.ifCond .le off, 3)) (ht : (pc : Int) + off = (tgt : Int)) : am_So T I pc (op_if (fun x => x ≤ 0) tgt (pc + 3)) := by
  intro ad ca D A nc ns p l e R s m args below meth c C lv st M ok
  have C0 := C
  obtain ⟨hx, hb, hr, hml, hown, hlk, hen, hro, hK, hnc, hns, hf1, hl1⟩ := C
  unfold op_if
  dsimp only
  rcases st with _ | ⟨x | x | x, st⟩
  · exact True.intro
  · refine ⟨am_ok_t ok, fun Q K H locs ls hW hS hl => ?_⟩
    refine lv_if_le hx hb hd ht (fun h => ?_) (fun h => ?_)
    · have K := K H locs ls hW hS hl
      rwa [if_pos h] at K
    · have K := K H locs ls hW hS hl
      first | rwa [if_neg h] at K | rwa [if_neg (fun h2 => h2 h)] at K
  · exact True.intro
  · exact True.intro
theorem so_ic_le {off : Int} {tgt : Nat} (hd : decode I.1 pc = .ok (.if_icmp .le off, 3)) (ht : (pc : Int) + off = (tgt : Int)) : am_So T I pc (op_ic (fun x y => x ≤ y) tgt (pc + 3)) := by
  intro ad ca D A nc ns p l e R s m args below meth c C lv st M ok
  have C0 := C
  obtain ⟨hx, hb, hr, hml, hown, hlk, hen, hro, hK, hnc, hns, hf1, hl1⟩ := C
  unfold op_ic
  dsimp only
  rcases st with _ | ⟨y | y | y, _ | ⟨x | x | x, st⟩⟩
  · exact True.intro
  · exact True.intro
  · refine ⟨am_ok_t (am_ok_t ok), fun Q K H locs ls hW hS hl => ?_⟩
    refine lv_icmp_le hx hb hd ht (fun h => ?_) (fun h => ?_)
    · have K := K H locs ls hW hS hl
      rwa [if_pos h] at K
    · have K := K H locs ls hW hS hl
      first | rwa [if_neg h] at K | rwa [if_neg (fun h2 => h2 h)] at K
  · exact True.intro
  · exact True.intro
  · exact True.intro
  · exact True.intro
  · exact True.intro
  · exact True.intro
  · exact True.intro
  · exact True.intro
  · exact True.intro
  · exact True.intro
end SO
