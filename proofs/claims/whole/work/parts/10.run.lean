/-! SOUNDNESS: calls; and of all -/
def am_ml (own : String) (index : Nat) (y : MethodName) : Prop := Cond.methodLink own index y ∈ lw_tbl ∨ ∃ host, Cond.methodLinkNest own index y host ∈ lw_tbl
/-- what the tables say of a method: its code, its class is initialised, how many parameters -/
def am_mo (y : MethodName) (by' : ByteArray) (ml : Nat) (rt : Option FieldType) (n : Nat) : Prop := Cond.code y by' ml rt ∈ lw_tbl ∧ Cond.initialized y.cls ∈ lw_tbl ∧ y.cls ≠ "java/lang/invoke/MethodHandle" ∧ y.cls ≠ "java/lang/invoke/VarHandle" ∧ (parseMethodDescriptor y.desc).map (fun d => d.parameters.length) = some n ∧ ml ≤ 21
section SO5
variable {p : Program} {l : Launch} {e : Env} {R : Room} {s : State} {m : MethodId} {args : Array Value} {below : List Frame} {meth : Method} {c : Code} {H : Heap} {locs : List Loc} {nc ns : Nat} {Q : State → Prop} {ls : Array Slot} {rest st0 : List Value}
variable {ad : Nat → Nat → Nat} {ca : Nat → ClassId} {D : va_G} {A : Nat → Prop} {I : am_In} {pc : Nat} {M : am_W}
theorem am_callW {r : am_Q} {a : Array Value} (hr : va_Run p l e R s m args below meth c H locs nc ns 0 0 (F0 m pc ls st0) rest (am_Qc ad ca D A r a) A) (hS : va_S A s.heap H locs)
    (kk : ((∀ v, r.1 = some v → am_ov v) ∧ ∀ i, xK r.2.1 i < 5) → ∀ (H1 : Heap) (locs1 : List Loc), am_Wd ad ca D A r.2 H1 → va_S A s.heap H1 locs1 → W p l e R s m args below meth c H1 locs1 nc ns Q (F0 m (pc + 3) ls ((r.1.map (am_cv ad)).toList ++ rest))) : W p l e R s m args below meth c H locs nc ns Q (F0 m pc ls st0) := by
  intro T hT X
  obtain ⟨v, st₀, t, T', L, h0, X', hL, e1, e2, ⟨hv, hpu, hw, hz, hk⟩, st⟩ := hr T hT X
  cases hv
  rw [h0] at hz hk
  obtain ⟨t2, a1, b1⟩ := kk hpu T'.heap (locs ++ L) (by rw [e1]; exact hw)
    ⟨Nat.le_trans hS.1 (by rw [e1]; exact hz), fun q h1 h2 => by rw [e1, hk q (Nat.lt_of_lt_of_le h1 hS.1) h2]; exact hS.2.1 q h1 h2, fun q hq => by
      rcases List.mem_append.mp hq with h | h
      · exact hS.2.2 q h
      · exact hL q h⟩ T' rfl X'
  exact ⟨t2, st t2 a1, b1⟩
theorem am_blind {as : List am_V} : FrameBlind (am_Pc ad ca D A as M) := by
  intro a U g mk h
  obtain ⟨h0, h1, h2, h3, h4⟩ := h
  exact ⟨h0, h1.same rfl, h2.moved (u := U) (U := U.calling g mk a) (Vm.Alike.refl U.vm), va_K.moved (u := U) (U := U.calling g mk a) (Vm.Alike.refl U.vm) h3, h4⟩
theorem am_pre (Cx : am_Cx I ad ca D A nc ns p R s m args meth c) {as : List am_V} (hW : am_Wd ad ca D A M H) (hS : va_S A s.heap H locs) (U : State) (hU : U.heap = H) (hw : s.WarmedH U.vm) : am_Pc ad ca D A as M (as.map (am_cv ad)).toArray U := by
  obtain ⟨hx, hb, hr, hml, hown, hlk, hen, hro, hK, hnc, hns, hf1, hl1⟩ := Cx
  exact ⟨rfl, hen.warm hw, (by rw [hU]; exact (hro.kept hS.2.1).moved hw.alike), va_K.moved hw.alike hK, by rw [hU]; exact hW⟩
end SO5
section SO6
variable {T : Nat → am_Me} {I : am_In} {pc : Nat} {t index : Nat}
theorem am_rev (ad : Nat → Nat → Nat) (n : Nat) (st : List am_V) : st.map (am_cv ad) = (((st.take n).reverse).map (am_cv ad)).reverse ++ (st.drop n).map (am_cv ad) := by
  rw [List.map_reverse, List.reverse_reverse, ← List.map_append, List.take_append_drop]
theorem am_push_map (ad : Nat → Nat → Nat) (v : Option am_V) (st : List am_V) : (am_push v st).map (am_cv ad) = (v.map (am_cv ad)).toList ++ st.map (am_cv ad) := by
  cases v <;> rfl
theorem am_cs_bits {j n ml nx : Nat} {a : am_S} {z : am_Z} (h : op_cs j n ml nx a = some z) : (a.2.1.take n).length = n ∧ am_cs (a.2.1.drop n) ≤ 8 ∧ am_cs (a.2.1.take n).reverse ≤ ml ∧ z = .inr (.inl (j, ((a.2.1.take n).reverse, (nx, (a.1, (a.2.1.drop n, a.2.2)))))) := by
  unfold op_cs at h
  cases hb : (Nat.beq (a.2.1.take n).length n && (Nat.ble (am_cs (a.2.1.drop n)) 8 && Nat.ble (am_cs (a.2.1.take n).reverse) ml)) with
  | false =>
    rw [hb] at h
    cases h
  | true =>
    rw [hb] at h
    rw [Bool.and_eq_true, Bool.and_eq_true] at hb
    exact ⟨Nat.eq_of_beq_eq_true hb.1, Nat.le_of_ble_eq_true hb.2.1, Nat.le_of_ble_eq_true hb.2.2, (Option.some.inj h).symm⟩
theorem am_desc {y : MethodName} {n : Nat} (h : (parseMethodDescriptor y.desc).map (fun d => d.parameters.length) = some n) : ∀ sig, parseMethodDescriptor y.desc = some sig → n = sig.parameters.length := by
  intro sig hs
  rw [hs] at h
  exact (Option.some.inj h).symm
theorem so_cs {j n ml : Nat} {y : MethodName} {by' : ByteArray} {rt : Option FieldType} (hT : T j = (y, (by', (ml, rt)))) (ho : am_mo y by' ml rt n) (hst : Cond.static y ∈ lw_tbl) (hk : am_ml I.2.2.2 index y) (hd : decode I.1 pc = .ok (.invokestatic index, 3)) : am_So T I pc (op_cs j n ml (pc + 3)) := by
  intro ad ca D A nc ns p l e R s m args below meth c Cx lv st M ok
  cases hop : op_cs j n ml (pc + 3) (lv, (st, M)) with
  | none => exact True.intro
  | some z =>
    obtain ⟨b1, b2, b3, rfl⟩ := am_cs_bits hop
    dsimp only at b1 b2 b3
    refine ⟨fun v hv => ok.2.1 v (List.mem_of_mem_take (List.mem_reverse.mp hv)), by rw [hT]; exact b3, ⟨ok.1, fun v hv => ok.2.1 v (List.mem_of_mem_drop hv), ok.2.2⟩, fun Q d r hM hf hl0 K H locs ls hW hS hl => ?_⟩
    have C0 := Cx
    obtain ⟨hx, hb, hr, hml, hown, hlk, hen, hro, hK, hnc, hns, hf1, hl1⟩ := Cx
    obtain ⟨o1, o2, o3, o4, o5, o6⟩ := ho
    have hM := hM ad ca D A
    rw [hT] at hM
    have hws : ∀ w ∈ [Cond.code y by' ml rt], ∀ (a' : Array Value) (U : State), s.WarmedH U.vm → w.before a' U = true := by
      intro w hw a' U hU
      rw [List.mem_singleton.mp hw]
      exact am_use (hen.warm hU) o1 rfl
    have hlen : (((st.take n).reverse).map (am_cv ad)).length = n := by rw [List.length_map, List.length_reverse]; exact b1
    have h8 := lv_room (m := m) (pc := pc) (ls := ls) (rest := st.map (am_cv ad)) (st := (st.drop n).map (am_cv ad)) (by rw [am_cs_cat]; exact b2)
    have hK2 : ((∀ v, r.1 = some v → am_ov v) ∧ ∀ i, xK r.2.1 i < 5) → ∀ (H1 : Heap) (locs1 : List Loc), am_Wd ad ca D A r.2 H1 → va_S A s.heap H1 locs1 → W p l e R s m args below meth c H1 locs1 nc ns Q (F0 m (pc + 3) ls ((r.1.map (am_cv ad)).toList ++ (st.drop n).map (am_cv ad))) := fun hpu H1 locs1 h1 h2 => by
      rw [← am_push_map]
      exact K hpu.1 hpu.2 H1 locs1 ls h1 h2 hl
    rcases hk with hk | ⟨host, hk⟩
    · exact am_callW (va_runS (Ts := []) ⟨hx, hb, hml, hown, fun _ h => absurd h List.not_mem_nil⟩ hM ⟨⟨rfl, rfl, hf, by show 8 + (ml + 11) + 40 * d ≤ R.locals; omega, hws, List.mem_singleton.mpr rfl, am_use hen o1 rfl, am_use hen o2 rfl, ⟨o3, o4⟩, am_desc o5, am_use hen hk rfl⟩, am_use hen hst rfl⟩ ⟨am_blind, fun U hU hw => am_pre C0 hW hS U hU hw⟩ rfl hlen hl.1 (am_rev ad n st) h8 hd ⟨hnc, hns⟩) hS hK2
    · exact am_callW (va_runSN (Ts := []) ⟨hx, hb, hml, hown, fun _ h => absurd h List.not_mem_nil⟩ hM ⟨⟨⟨rfl, rfl, hf, by show 8 + (ml + 11) + 40 * d ≤ R.locals; omega, hws, List.mem_singleton.mpr rfl⟩, am_use hen o1 rfl, am_use hen o2 rfl, ⟨o3, o4⟩, am_desc o5, am_use hen hk rfl⟩, am_use hen hst rfl, True.intro⟩ ⟨am_blind, fun U hU hw => am_pre C0 hW hS U hU hw⟩ rfl hlen hl.1 (am_rev ad n st) h8 hd ⟨hnc, hns⟩) hS hK2
/-- the receiver: an object of the layout, or a KIND -/
def am_rc (t : Nat) (C : String) : Prop := (∃ Tt ty0, am_cf t C Tt ty0) ∨ (t = 20 ∧ C = "ServedAhead$Kind")
theorem so_cv {j n ml : Nat} {y : MethodName} {by' : ByteArray} {rt : Option FieldType} (hrc : am_rc t y.cls) (hT : T j = (y, (by', (ml, rt)))) (ho : am_mo y by' ml rt n) (hst : Cond.instanceMethod y ∈ lw_tbl) (hsel : Cond.selects y.cls y y ∈ lw_tbl) (hk : am_ml I.2.2.2 index y) (hd : decode I.1 pc = .ok (.invokevirtual index, 3)) : am_So T I pc (op_cv t j (n + 1) ml (pc + 3)) := by
  intro ad ca D A nc ns p l e R s m args below meth c Cx lv st M ok
  unfold op_cv
  dsimp only
  cases hrv : (st.take (n + 1)).reverse with
  | nil => exact True.intro
  | cons v0 as =>
    rcases v0 with x | x | ⟨t', i⟩
    · exact True.intro
    · exact True.intro
    · dsimp only
      cases hbt : Nat.beq t' t with
      | false => exact True.intro
      | true =>
        have e1 : t' = t := Nat.eq_of_beq_eq_true hbt
        subst e1
        simp only [cond_true]
        cases hop : op_cs j (n + 1) ml (pc + 3) (lv, (st, M)) with
        | none => exact True.intro
        | some z =>
          obtain ⟨b1, b2, b3, rfl⟩ := am_cs_bits hop
          dsimp only at b1 b2 b3
          refine ⟨fun v hv => ok.2.1 v (List.mem_of_mem_take (List.mem_reverse.mp hv)), by rw [hT]; exact b3, ⟨ok.1, fun v hv => ok.2.1 v (List.mem_of_mem_drop hv), ok.2.2⟩, fun Q d r hM hf hl0 K H locs ls hW hS hl => ?_⟩
          have hov : am_vk t' i := ok.2.1 (.inr (.inr (t', i))) (List.mem_of_mem_take (List.mem_reverse.mp (by rw [hrv]; exact List.mem_cons_self)))
          have C0 := Cx
          obtain ⟨hx, hb, hr, hml, hown, hlk, hen, hro, hK, hnc, hns, hf1, hl1⟩ := Cx
          obtain ⟨o1, o2, o3, o4, o5, o6⟩ := ho
          have hM := hM ad ca D A
          rw [hT] at hM
          dsimp only at hM
          rw [hrv] at hM
          have hws : ∀ w ∈ [Cond.code y by' ml rt], ∀ (a' : Array Value) (U : State), s.WarmedH U.vm → w.before a' U = true := by
            intro w hw a' U hU
            rw [List.mem_singleton.mp hw]
            exact am_use (hen.warm hU) o1 rfl
          have hlen : (as.map (am_cv ad)).length = n := by
            have h1 : ((st.take (n + 1)).reverse).length = n + 1 := by rw [List.length_reverse]; exact b1
            rw [hrv, List.length_cons] at h1
            rw [List.length_map]
            omega
          have hstk : st.map (am_cv ad) = (as.map (am_cv ad)).reverse ++ Value.ref (ad t' i) :: (st.drop (n + 1)).map (am_cv ad) := by
            rw [am_rev ad (n + 1) st, hrv, List.map_cons, List.reverse_cons, List.append_assoc]
            rfl
          have h8 := lv_room (m := m) (pc := pc) (ls := ls) (rest := st.map (am_cv ad)) (st := (st.drop (n + 1)).map (am_cv ad)) (by rw [am_cs_cat]; exact b2)
          have hK2 : ((∀ v, r.1 = some v → am_ov v) ∧ ∀ i, xK r.2.1 i < 5) → ∀ (H1 : Heap) (locs1 : List Loc), am_Wd ad ca D A r.2 H1 → va_S A s.heap H1 locs1 → W p l e R s m args below meth c H1 locs1 nc ns Q (F0 m (pc + 3) ls ((r.1.map (am_cv ad)).toList ++ (st.drop (n + 1)).map (am_cv ad))) := fun hpu H1 locs1 h1 h2 => by
            rw [← am_push_map]
            exact K hpu.1 hpu.2 H1 locs1 ls h1 h2 hl
          have hrecv : ∃ cell : Cell, H[ad t' i]? = some cell ∧ cell.vm.isStatics = false ∧ s.vm.findClass y.cls = some cell.cls := by
            rcases hrc with ⟨Tt, ty0, c1, c2, c3, c4, c5, c6⟩ | ⟨rfl, hC⟩
            · obtain ⟨q0, hq⟩ := am_place (am_key_of c6 hov)
              have he := am_enc_at (ad := ad) (ca := ca) (M := M) hq
              rw [am_cell_obj c1] at he
              exact va_recv hK hW.1 c2 he
            · rw [hC]
              exact va_recvE hro.1 (am_k20 hov) hS
          rcases hk with hk | ⟨host, hk⟩
          · exact am_callW (va_runV (Ts := []) ⟨hx, hb, hml, hown, fun _ h => absurd h List.not_mem_nil⟩ hM ⟨⟨rfl, rfl, hf, by show 8 + (ml + 11) + 40 * d ≤ R.locals; omega, hws, List.mem_singleton.mpr rfl, am_use hen o1 rfl, am_use hen o2 rfl, ⟨o3, o4⟩, am_desc o5, am_use hen hk rfl⟩, am_use hen hst rfl, am_use hen hsel rfl⟩ ⟨am_blind, hrecv, fun U hU hw => am_pre C0 hW hS U hU hw⟩ rfl hlen hl.1 hstk h8 hd ⟨hnc, hns⟩) hS hK2
          · exact am_callW (va_runVN (Ts := []) ⟨hx, hb, hml, hown, fun _ h => absurd h List.not_mem_nil⟩ hM ⟨⟨⟨rfl, rfl, hf, by show 8 + (ml + 11) + 40 * d ≤ R.locals; omega, hws, List.mem_singleton.mpr rfl⟩, am_use hen o1 rfl, am_use hen o2 rfl, ⟨o3, o4⟩, am_desc o5, am_use hen hk rfl⟩, am_use hen hst rfl, am_use hen hsel rfl⟩ ⟨am_blind, hrecv, fun U hU hw => am_pre C0 hW hS U hU hw⟩ rfl hlen hl.1 hstk h8 hd ⟨hnc, hns⟩) hS hK2
end SO6
/-! OF ALL -/
theorem am_tab_so {T : Nat → am_Me} {I : am_In} {l : List (Nat × am_O)} (h : ∀ q ∈ l, am_So T I q.1 q.2) (pc : Nat) : am_So T I pc (am_tab l pc) := by
  induction l with
  | nil => exact so_none
  | cons q r ih =>
    unfold am_tab
    cases hb : Nat.beq q.1 pc with
    | false => exact ih (fun q' hq' => h q' (List.mem_cons_of_mem _ hq'))
    | true =>
      have e : q.1 = pc := Nat.eq_of_beq_eq_true hb
      subst e
      exact h q List.mem_cons_self
/-- the walk of a body, given its calls -/
theorem am_lp_snd {T : Nat → am_Me} {I : am_In} {P : Nat → am_O} (hP : ∀ pc, am_So T I pc (P pc)) {Cr : Nat → List am_V → am_W → am_Q → Prop} {d : Nat} {l : Launch} (hC : ∀ j as M r, Cr j as M r → (∀ v ∈ as, am_ov v) → (∀ i, xK M.1 i < 5) → am_cs as ≤ (T j).2.2.1 → am_Mt l d (T j) as M r)
    {ad : Nat → Nat → Nat} {ca : Nat → ClassId} {D : va_G} {A : Nat → Prop} {nc ns : Nat} {p : Program} {e : Env} {R : Room} {s : State} {m : MethodId} {args : Array Value} {below : List Frame} {meth : Method} {c : Code} (Cx : am_Cx I ad ca D A nc ns p R s m args meth c) (hf : d + 1 ≤ R.frames) (hl : 40 * d + 40 ≤ R.locals) {r : am_Q} {Q : State → Prop}
    (hR : ∀ pc a, P pc a = some (.inr (.inr r)) → am_ok a → am_G I ad ca D A nc ns p l e R s m args below meth c Q pc a) :
    ∀ (n pc : Nat) (a : am_S), am_lp P Cr n pc a r → am_ok a → am_G I ad ca D A nc ns p l e R s m args below meth c Q pc a := by
  intro n
  induction n with
  | zero =>
    intro pc a h
    exact h.elim
  | succ n ih =>
    intro pc a h ok
    rcases h with ⟨ks, h⟩ | h
    · have g1 := ih pc _ h ⟨fun q hq => ok.1 q (am_sel_mem hq), ok.2⟩
      refine fun H locs ls hW hS hls => g1 H locs ls hW hS ?_
      show lv_has ls I.2.1 ((am_sel ks a.1).map (am_cp ad))
      rw [am_sel_map]
      exact lv_sub hls ks rfl
    · have hso := hP pc ad ca D A nc ns p l e R s m args below meth c Cx a.1 a.2.1 a.2.2 ok
      cases hz : P pc a with
      | none =>
        rw [hz] at h
        exact h.elim
      | some z =>
        rw [hz] at h
        rw [show P pc (a.1, (a.2.1, a.2.2)) = some z from hz] at hso
        rcases z with b | b | b
        · exact hso.2 Q (ih b.1 b.2 h hso.1)
        · obtain ⟨q, hq, h⟩ := h
          obtain ⟨k1, k2, k3, k4⟩ := hso
          have m1 := hC _ _ _ _ hq k1 k3.2.2 k2
          refine k4 Q d q m1 hf hl (fun m2 m3 => ih _ _ h ⟨k3.1, (by
            intro v hv
            obtain ⟨qv, qm⟩ := q
            rcases qv with _ | qv
            · exact k3.2.1 v hv
            · rcases List.mem_cons.mp hv with hv | hv
              · rw [hv]; exact m2 qv rfl
              · exact k3.2.1 v hv), m3⟩)
        · have e : r = b := h
          subst e
          exact hR pc a hz ok
/-- a method's number: its name, code, locals, answer; its class -/
def am_inf (T : Nat → am_Me) (j : Nat) : am_In := ((T j).2.1, ((T j).2.2.1, ((T j).2.2.2, (T j).1.cls)))
theorem am_snd {T : Nat → am_Me} {PR : Nat → Nat → am_O} (l : Launch) (hpl : ∀ j, plainName (T j).1.cls = true) (hP : ∀ j pc, am_So T (am_inf T j) pc (PR j pc)) :
    ∀ (d j : Nat) (as : List am_V) (M : am_W) (r : am_Q), am_Ev PR d j as M r → (∀ v ∈ as, am_ov v) → (∀ i, xK M.1 i < 5) → am_cs as ≤ (T j).2.2.1 → am_Mt l d (T j) as M r := by
  intro d
  induction d with
  | zero =>
    intro j as M r h
    exact h.elim
  | succ d ih =>
    intro j as M r h hov hxk hcs
    obtain ⟨n, h⟩ := h
    have hok : am_ok (am_args 0 as, ([], M)) := by
      refine ⟨?_, (fun v hv => absurd hv List.not_mem_nil), hxk⟩
      have : ∀ (i : Nat) (as : List am_V), (∀ v ∈ as, am_ov v) → ∀ q ∈ am_args i as, am_ov q.2 := by
        intro i as
        induction as generalizing i with
        | nil => intro _ q hq; exact absurd hq List.not_mem_nil
        | cons v vs ihv =>
          intro h1 q hq
          rcases List.mem_cons.mp hq with e | hq
          · rw [e]; exact h1 v List.mem_cons_self
          · exact ihv _ (fun w hw => h1 w (List.mem_cons_of_mem _ hw)) q hq
      exact this 0 as hov
    have key : ∀ (ad : Nat → Nat → Nat) (ca : Nat → ClassId) (D : va_G) (A : Nat → Prop), Met l (T j).1 [.code (T j).1 (T j).2.1 (T j).2.2.1 (T j).2.2.2] (am_rm (d + 1)) (am_Pc ad ca D A as M) (am_Qc ad ca D A r) 0 0 A := by
      intro ad ca D A
      refine Met.ofW (cc := (T j).2.1) (maxL := (T j).2.2.1) (ret := (T j).2.2.2) (hpl j) rfl ?_
      intro p e s m args below meth c s₁ B hml hv
      obtain ⟨rfl, hen, hro, hK, hWd⟩ := hv
      have Cx : am_Cx (am_inf T j) ad ca D A 0 0 p (headSpec [.code (T j).1 (T j).2.1 (T j).2.2.1 (T j).2.2.2] (am_rm (d + 1))).room s m (as.map (am_cv ad)).toArray meth c :=
        ⟨B.exec, B.bytes, B.returns, hml, findClass_of_methodNamed B.named, B.notSynchronized, hen, hro, hK, Nat.zero_le _, Nat.zero_le _, Nat.le_add_left 1 d, (by show 40 ≤ 40 * (d + 1); omega)⟩
      have hl := lv_entry (as.map (am_cv ad)) (n := (T j).2.2.1) (by rw [am_cs_sl]; exact hcs)
      rw [lg_entry_eq]
      have hG := (am_lp_snd (T := T) (I := am_inf T j) (P := PR j) (hP j) (Cr := am_Ev PR d) (d := d) (l := l) ih (e := e) (below := below) Cx (Nat.le_refl (d + 1)) (by show 40 * d + 40 ≤ 40 * (d + 1); omega) (r := r) (Q := MQ below (am_Qc ad ca D A r) (as.map (am_cv ad)).toArray s 0 0 A) (fun pc a hz ok => by
        have hso := hP j pc ad ca D A 0 0 p l e _ s m _ below meth c Cx a.1 a.2.1 a.2.2 ok
        rw [show PR j pc (a.1, (a.2.1, a.2.2)) = _ from hz] at hso
        exact hso) n 0 _ h hok)
      exact hG s.heap [] _ hWd va_S.rf (by rw [am_args_map]; exact hl)
    exact key
