/-! the law's walk -/
def R_law : String := "ServedAheadLaw"
def lw_P (b : Addr) (xs : List Int32) (args : Array Value) (s : State) : Prop := args = #[.ref b] ∧ s.IntsAt b xs ∧ xs.length ≤ 256 ∧ (Jvm.Cond.and given_1 narrow_1).before args s = true
def lw_Q (_ : Array Value) (s : State) (o : Outcome) (t : State) : Prop := o = .returned (some (.int 1)) ∧ Framed s o t [] 600000 7302250
def lw_Z (below : List Frame) (a : Array Value) (s : State) : State → Prop := fun t => ∃ o, t.status = .running ∧ Ended t below o ∧ lw_Q a s o t
/-- the law's own end, with 1 on the stack, nothing written that was there before, its room as the claim has it -/
theorem lw_ret {p : Program} {l : Launch} {e : Env} {s : State} {m : MethodId} {below : List Frame} {meth : Method} {c : Code} {b : Nat} (hx : p.tables.exec = Jvm.exec) (hb : c.code = code) (hr : meth.sig.returnType = ret) (hlocks : meth.locks = false) {pc : Nat} {H : Heap} {ls : Array Slot} (hdg : decode code pc = .ok (.ireturn, 1)) : W p l e room_1 s m #[Value.ref b] below meth c H [] 600000 7302250 (lw_Z below #[Value.ref b] s) (F0 m pc ls [.int 1]) := by
  intro T hT X
  obtain ⟨fs, hret, hrun, hended, hW, hframe⟩ := X.leave (v := some (.int 1)) (hlocks := hlocks) (fun h => by rw [hr] at h; cases h)
  have hmeth' : T.vm.method? m = some meth := X.method'
  refine ⟨T.setFrames fs, ?_, .returned (some (.int 1)), hrun, hended, rfl, ⟨_, rfl⟩, hW, hframe⟩
  jvm_step X.here [X.here.top, hx, hb, hdg, hmeth', hr, ret, narrow_b1]
  (try refine ⟨rfl, ?_⟩); (try refine ⟨rfl, ?_⟩)
  first | (intro acts; rw [hret _ acts rfl rfl rfl]) | rw [hret _ _ rfl rfl rfl]
  exact Steps.refl _
/-- what holds at the law's entry: the machine, the code, the tables' words (any of lw_tbl by 'hts w (by decide +kernel)'), the script of L ints xs at the cell b, what the Statement gives of the start (any of its parts by flat_of_before) -/
def lw_At (p : Program) (s : State) (m : MethodId) (meth : Method) (c : Code) (b L : Nat) (xs : Nat → Int32) : Prop :=
  p.tables.exec = Jvm.exec ∧ c.code = code ∧ meth.sig.returnType = ret ∧ c.maxLocals = 4 ∧ s.vm.findClass R_law = some m.cls ∧ (∀ w ∈ lw_tbl, w.before #[Value.ref b] s = true) ∧ va_X b L xs s s.heap ∧ b < s.heap.size ∧ meth.locks = false ∧ (Jvm.Cond.and given_1 narrow_1).before #[Value.ref b] s = true

def I_law : am_In := (cL_law, (4, (ret, RL)))
def am_Sy (ad : Nat → Nat → Nat) (ca : Nat → ClassId) (D : va_G) (A : Nat → Prop) (p : Program) (l : Launch) (e : Env) (s : State) (m : MethodId) (b : Nat) (below : List Frame) (meth : Method) (c : Code) (pc : Nat) (op : am_O) : Prop := ∀ (lv : am_LV) (st : List am_V) (M : am_W), am_ok (lv, (st, M)) → match op (lv, (st, M)) with
  | none => True
  | some (.inl q) => am_ok q.2 ∧ (am_G I_law ad ca D A 600000 7302250 p l e room_1 s m #[Value.ref b] below meth c (lw_Z below #[Value.ref b] s) q.1 q.2 → am_G I_law ad ca D A 600000 7302250 p l e room_1 s m #[Value.ref b] below meth c (lw_Z below #[Value.ref b] s) pc (lv, (st, M)))
  | some (.inr (.inl q)) => (∀ v ∈ q.2.1, am_ov v) ∧ am_cs q.2.1 ≤ (am_T q.1).2.2.1 ∧ am_ok q.2.2.2 ∧ ∀ d r, am_Mt l d (am_T q.1) q.2.1 q.2.2.2.2.2 r → d + 1 ≤ room_1.frames → 40 * d + 40 ≤ room_1.locals → ((∀ v, r.1 = some v → am_ov v) → (∀ i, xK r.2.1 i < 5) → am_G I_law ad ca D A 600000 7302250 p l e room_1 s m #[Value.ref b] below meth c (lw_Z below #[Value.ref b] s) q.2.2.1 (q.2.2.2.1, (am_push r.1 q.2.2.2.2.1, r.2))) → am_G I_law ad ca D A 600000 7302250 p l e room_1 s m #[Value.ref b] below meth c (lw_Z below #[Value.ref b] s) pc (lv, (st, M))
  | some (.inr (.inr r)) => r.1 = some (am_I 1) → am_G I_law ad ca D A 600000 7302250 p l e room_1 s m #[Value.ref b] below meth c (lw_Z below #[Value.ref b] s) pc (lv, (st, M))
def am_nr (op : am_O) : Prop := ∀ a r, op a ≠ some (.inr (.inr r))
theorem nr_li {i nx : Nat} : am_nr (op_li i nx) := by
  intro a r h
  unfold op_li at h
  split at h <;> cases h
theorem nr_lr {i nx : Nat} : am_nr (op_lr i nx) := by
  intro a r h
  unfold op_lr at h
  split at h <;> cases h
theorem nr_c {v : Int32} {nx : Nat} : am_nr (op_c v nx) := by
  intro a r h
  cases h
theorem nr_ii {f : Int32 → Int32 → Int32} {nx : Nat} : am_nr (op_ii f nx) := by
  intro a r h
  unfold op_ii at h
  split at h <;> cases h
theorem nr_jji {f : Int64 → Int64 → Int32} {nx : Nat} : am_nr (op_jji f nx) := by
  intro a r h
  unfold op_jji at h
  split at h <;> cases h
theorem nr_ic {f : Int32 → Int32 → Prop} [∀ x y, Decidable (f x y)] {tg nx : Nat} : am_nr (op_ic f tg nx) := by
  intro a r h
  unfold op_ic at h
  split at h <;> cases h
theorem nr_if {f : Int32 → Prop} [DecidablePred f] {tg nx : Nat} : am_nr (op_if f tg nx) := by
  intro a r h
  unfold op_if at h
  split at h <;> cases h
theorem nr_sw {lo : Int} {tgs : List Nat} {dt : Nat} : am_nr (op_sw lo tgs dt) := by
  intro a r h
  unfold op_sw at h
  split at h <;> cases h
theorem nr_iinc {i nx : Nat} {v : Int32} : am_nr (op_iinc i v nx) := by
  intro a r h
  unfold op_iinc at h
  split at h <;> cases h
theorem nr_ist {i nx : Nat} : am_nr (op_ist i nx) := by
  intro a r h
  unfold op_ist at h
  split at h <;> cases h
theorem nr_go {nx : Nat} : am_nr (op_go nx) := by
  intro a r h
  cases h
theorem nr_cs {j n ml nx : Nat} : am_nr (op_cs j n ml nx) := by
  intro a r h
  obtain ⟨_, _, _, e⟩ := am_cs_bits h
  cases e
theorem nr_cv {t j n ml nx : Nat} : am_nr (op_cv t j n ml nx) := by
  intro a r h
  unfold op_cv at h
  split at h
  · rename_i q _ _
    cases hb : Nat.beq q.1 t with
    | false => rw [hb] at h; cases h
    | true => rw [hb] at h; exact nr_cs a r h
  · cases h
section SY
variable {ad : Nat → Nat → Nat} {ca : Nat → ClassId} {D : va_G} {A : Nat → Prop} {p : Program} {l : Launch} {e : Env} {s : State} {m : MethodId} {b L : Nat} {xs : Nat → Int32} {below : List Frame} {meth : Method} {c : Code} {pc : Nat}
theorem sy_of {op : am_O} (Cx : am_Cx I_law ad ca D A 600000 7302250 p room_1 s m #[Value.ref b] meth c) (h : am_So am_T I_law pc op) (hn : am_nr op) : am_Sy ad ca D A p l e s m b below meth c pc op := by
  intro lv st M ok
  have h1 := h ad ca D A 600000 7302250 p l e room_1 s m #[Value.ref b] below meth c Cx lv st M ok
  cases hz : op (lv, (st, M)) with
  | none => exact True.intro
  | some z =>
    rw [hz] at h1
    rcases z with q | q | q
    · exact ⟨h1.1, h1.2 _⟩
    · exact ⟨h1.1, h1.2.1, h1.2.2.1, h1.2.2.2 _⟩
    · exact absurd hz (hn _ _)
theorem sy_ret (Cx : am_Cx I_law ad ca D A 600000 7302250 p room_1 s m #[Value.ref b] meth c) (hf : ∀ q, A q → s.heap.size ≤ q) : am_Sy ad ca D A p l e s m b below meth c 788 op_iret := by
  intro lv st M ok
  unfold op_iret
  dsimp only
  rcases st with _ | ⟨x | x | x, _ | ⟨y, st⟩⟩
  any_goals exact True.intro
  intro h H locs ls hW hS hl
  cases h
  obtain ⟨hx, hb, hr, hml, hown, hlk, hen, hro, hK, hnc, hns, hf1, hl1⟩ := Cx
  exact va_forget (fun q hq => hf _ (hS.2.2 q hq)) (lw_ret hx hb hr hlk dL_law_788)
theorem sy_sl (Cx : am_Cx I_law ad ca D A 600000 7302250 p room_1 s m #[Value.ref b] meth c) (hX : va_X b L xs s s.heap) (hbl : b < s.heap.size) (hbA : ¬ A b) (had : ad 23 0 = b) (hd : decode cL_law pc = .ok (.arraylength, 1)) : am_Sy ad ca D A p l e s m b below meth c pc (op_tl 23 L (pc + 1)) := by
  intro lv st M ok
  unfold op_tl
  dsimp only
  rcases st with _ | ⟨x | x | ⟨t', i⟩, st⟩
  any_goals exact True.intro
  dsimp only
  cases hb : Nat.beq t' 23 with
  | false => exact True.intro
  | true =>
    have e1 : t' = 23 := Nat.eq_of_beq_eq_true hb
    subst e1
    have hi : i = 0 := am_k2x (Or.inr (Or.inr rfl)) (am_ok_h ok)
    subst hi
    refine ⟨am_ok_c True.intro (am_ok_t ok), fun K H locs ls hW hS hl => ?_⟩
    obtain ⟨hx, hb, hr, hml, hown, hlk, hen, hro, hK, hnc, hns, hf1, hl1⟩ := Cx
    show W p l e room_1 s m #[Value.ref b] below meth c H locs 600000 7302250 _ (F0 m pc ls (.ref (ad 23 0) :: st.map (am_cv ad)))
    rw [had]
    exact va_slen hx hb hX hbl hbA hS hd (K H locs ls hW hS hl)
theorem sy_si (Cx : am_Cx I_law ad ca D A 600000 7302250 p room_1 s m #[Value.ref b] meth c) (hX : va_X b L xs s s.heap) (hbl : b < s.heap.size) (hbA : ¬ A b) (had : ad 23 0 = b) (hd : decode cL_law pc = .ok (.iaload, 1)) : am_Sy ad ca D A p l e s m b below meth c pc (op_si xs L (pc + 1)) := by
  intro lv st M ok
  unfold op_si
  dsimp only
  rcases st with _ | ⟨j | j | j, _ | ⟨x | x | ⟨t', i⟩, st⟩⟩
  any_goals exact True.intro
  dsimp only
  cases hb : Nat.beq t' 23 with
  | false => exact True.intro
  | true =>
    have e1 : t' = 23 := Nat.eq_of_beq_eq_true hb
    subst e1
    have hi : i = 0 := am_k2x (Or.inr (Or.inr rfl)) (am_ok_h (am_ok_t ok))
    subst hi
    by_cases hj : am_inB j L = true
    · simp only [cond_true, if_pos hj]
      refine ⟨am_ok_c True.intro (am_ok_t (am_ok_t ok)), fun K H locs ls hW hS hl => ?_⟩
      obtain ⟨hx, hb, hr, hml, hown, hlk, hen, hro, hK, hnc, hns, hf1, hl1⟩ := Cx
      show W p l e room_1 s m #[Value.ref b] below meth c H locs 600000 7302250 _ (F0 m pc ls (.int j :: .ref (ad 23 0) :: st.map (am_cv ad)))
      rw [had]
      exact va_sld hx hb hX hbl hbA hS (am_inB_iff hj) hd (K H locs ls hW hS hl)
    · simp only [cond_true, if_neg hj]
theorem sy_none : am_Sy ad ca D A p l e s m b below meth c pc (fun _ => none) := fun _ _ _ _ => True.intro
theorem sy_cond {t : Bool} {f g : am_O} (h1 : am_Sy ad ca D A p l e s m b below meth c pc f) (h2 : am_Sy ad ca D A p l e s m b below meth c pc g) : am_Sy ad ca D A p l e s m b below meth c pc (bif t then f else g) := by
  cases t
  · exact h2
  · exact h1
theorem am_tab_sy {t : List (Nat × am_O)} (h : ∀ q ∈ t, am_Sy ad ca D A p l e s m b below meth c q.1 q.2) (pc : Nat) : am_Sy ad ca D A p l e s m b below meth c pc (am_tab t pc) := by
  induction t with
  | nil => exact sy_none
  | cons q r ih =>
    unfold am_tab
    cases hb : Nat.beq q.1 pc with
    | false => exact ih (fun q' hq' => h q' (List.mem_cons_of_mem _ hq'))
    | true =>
      have e : q.1 = pc := Nat.eq_of_beq_eq_true hb
      subst e
      exact h q List.mem_cons_self
theorem am_lp_sy {P : Nat → am_O} (hP : ∀ pc, am_Sy ad ca D A p l e s m b below meth c pc (P pc)) {d : Nat} (hf : d + 1 ≤ room_1.frames) (hl : 40 * d + 40 ≤ room_1.locals) {r : am_Q} (hr1 : r.1 = some (am_I 1)) : ∀ (n pc : Nat) (a : am_S), am_lp P (am_Ev am_PR d) n pc a r → am_ok a → am_G I_law ad ca D A 600000 7302250 p l e room_1 s m #[Value.ref b] below meth c (lw_Z below #[Value.ref b] s) pc a := by
  intro n
  induction n with
  | zero =>
    intro pc a h
    exact h.elim
  | succ n ih =>
    intro pc a h ok
    rcases h with ⟨ks, h⟩ | h
    · have g1 := ih pc _ h ⟨fun q hq => ok.1 q (am_sel_mem hq), ok.2⟩
      refine fun H locs ls hW hS hls => g1 H locs ls hW hS ?_
      show lv_has ls I_law.2.1 ((am_sel ks a.1).map (am_cp ad))
      rw [am_sel_map]
      exact lv_sub hls ks rfl
    · have hso := hP pc a.1 a.2.1 a.2.2 ok
      cases hz : P pc a with
      | none =>
        rw [hz] at h
        exact h.elim
      | some z =>
        rw [hz] at h
        rw [show P pc (a.1, (a.2.1, a.2.2)) = some z from hz] at hso
        rcases z with b | b | b
        · exact hso.2 (ih b.1 b.2 h hso.1)
        · obtain ⟨q, hq, h⟩ := h
          obtain ⟨k1, k2, k3, k4⟩ := hso
          have m1 := am_all l hq k1 k3.2.2 k2
          refine k4 d q m1 hf hl (fun m2 m3 => ih _ _ h ⟨k3.1, (by
            intro v hv
            obtain ⟨qv, qm⟩ := q
            rcases qv with _ | qv
            · exact k3.2.1 v hv
            · rcases List.mem_cons.mp hv with hv | hv
              · rw [hv]; exact m2 qv rfl
              · exact k3.2.1 v hv), m3⟩)
        · have e : r = b := h
          subst e
          exact hso hr1
end SY
theorem am_gd {PR : Nat → Nat → am_O} {d : Nat} {P : Nat → am_O} {pc : Nat} {a : am_S} {r : am_Q} (k pc1 : Nat) {a1 : am_S} {c : Prop} [Decidable c] {pc' : Nat} {a' : am_S} (h1 : am_run P k pc a = some (.inl (pc1, a1))) (h : P pc1 a1 = if c then some (.inl (pc', a')) else none) (hc : c) (K : am_At PR d P pc' a' r) : am_At PR d P pc a r := am_go k h1 (am_go 1 (by unfold am_run; rw [h, if_pos hc]; rfl) K)
theorem lg_cmp_self (v : Int64) : lg_cmp v v = 0 := by
  unfold lg_cmp
  rw [if_neg (Int64.lt_irrefl), if_pos rfl]
