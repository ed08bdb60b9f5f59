/-! SOUNDNESS: fields, arrays, statics -/
def am_cf (t : Nat) (C : String) (Tt : u_T) (ty0 : Nat → FieldType) : Prop := am_ak t = 0 ∧ vwCl[am_ci t]? = some (C, Tt, am_nf t) ∧ (∀ w ∈ u_ws C Tt (am_nf t), w ∈ lw_tbl ∧ am_gw w = true) ∧ (∀ k, k < am_nf t → parseFieldDescriptor (Tt k).2.2.1 = some (ty0 k)) ∧ (∀ a, a < am_nf t → ∀ b, b < am_nf t → a ≠ b → (Tt a).2.1 ≠ (Tt b).2.1) ∧ (t < 20 ∨ 32 ≤ t)
def am_fl (own : String) (index : Nat) (q : String × String × String × Bool) : Prop := Cond.fieldLink own index q.1 q.2.1 q.2.2.1 ∈ lw_tbl ∨ ∃ host, Cond.fieldLinkNest own index q.1 q.2.1 q.2.2.1 host ∈ lw_tbl
theorem am_key_of {t i : Nat} (ht : t < 20 ∨ 32 ≤ t) (h : am_vk t i) : (t, i) ∈ am_keys := by
  rcases h with h | ⟨h, -⟩ | ⟨h, -⟩
  · exact h
  · omega
  · omega
section SM
variable {p : Program} {l : Launch} {e : Env} {R : Room} {s : State} {m : MethodId} {args : Array Value} {below : List Frame} {meth : Method} {c : Code} {H : Heap} {locs : List Loc} {nc ns : Nat} {Q : State → Prop} {ls : Array Slot} {rest : List Value}
variable {ad : Nat → Nat → Nat} {ca : Nat → ClassId} {D : va_G} {A : Nat → Prop} {I : am_In} {pc : Nat} {t i k index : Nat} {C : String} {Tt : u_T} {ty0 : Nat → FieldType} {M M' : am_W}
theorem am_use (hen : am_En s) {w : Cond} (hw : w ∈ lw_tbl) (hg : am_gw w = true) : w.before args s = true := va_Nw.use (am_gw_on hg) (hen w hw hg)
theorem am_fs_at (hk : k < am_nf t) : ((List.range (am_nf t)).map (am_fv ad M t i))[k]? = some (am_fv ad M t i k) := by
  rw [List.getElem?_map, List.getElem?_range hk]
  rfl
theorem am_getW (Cx : am_Cx I ad ca D A nc ns p R s m args meth c) (hc : am_cf t C Tt ty0) (hk : k < am_nf t) (hw : am_fl I.2.2.2 index (Tt k)) (hkey : (t, i) ∈ am_keys) (hW : am_Wd ad ca D A M H) (hd : decode I.1 pc = .ok (.getfield index, 3))
    (kk : W p l e R s m args below meth c H locs nc ns Q (F0 m (pc + 3) ls (am_fv ad M t i k :: rest))) : W p l e R s m args below meth c H locs nc ns Q (F0 m pc ls (.ref (ad t i) :: rest)) := by
  obtain ⟨hx, hb, hr, hml, hown, hlk, hen, hro, hK, hnc, hns, hf1, hl1⟩ := Cx
  obtain ⟨c1, c2, c3, c4, c5, c6⟩ := hc
  obtain ⟨q0, hq⟩ := am_place hkey
  have he := am_enc_at (ad := ad) (ca := ca) (M := M) hq
  rw [am_cell_obj c1] at he
  have hts : ∀ w ∈ u_ws C Tt (am_nf t), w.before args s = true := fun w h => am_use hen (c3 w h).1 (c3 w h).2
  rcases hw with hw | ⟨host, hw⟩
  · exact va_get (D := D) hx hb hts (fun _ h => h) hown hK hW.1 q0 he c2 k hk (am_use hen hw rfl) (fun _ h => h) (am_fs_at hk) hd kk
  · exact va_getN (D := D) hx hb hts (fun _ h => h) hown hK hW.1 q0 he c2 k hk (am_use hen hw rfl) (fun _ h => h) (am_fs_at hk) hd kk
theorem am_putW (Cx : am_Cx I ad ca D A nc ns p R s m args meth c) (hc : am_cf t C Tt ty0) (hk : k < am_nf t) (hw : am_fl I.2.2.2 index (Tt k)) (hfin : (Tt k).2.2.2 = false) {v : Value} (hn : narrow (ty0 k) v = v) (hfit : fits (ty0 k) v = true) (hkey : (t, i) ∈ am_keys) (hW : am_Wd ad ca D A M H) (hS : va_S A s.heap H locs)
    (hset : ((List.range (am_nf t)).map (am_fv ad M t i)).set k v = (List.range (am_nf t)).map (am_fv ad M' t i)) (ho : ∀ t' i', (t', i') ≠ (t, i) → (t', i') ∈ am_keys → am_cell ad ca M' t' i' = am_cell ad ca M t' i') (hd : decode I.1 pc = .ok (.putfield index, 3))
    (kk : ∀ (H1 : Heap) (locs1 : List Loc), am_Wd ad ca D A M' H1 → va_S A s.heap H1 locs1 → W p l e R s m args below meth c H1 locs1 nc ns Q (F0 m (pc + 3) ls rest)) : W p l e R s m args below meth c H locs nc ns Q (F0 m pc ls (v :: .ref (ad t i) :: rest)) := by
  obtain ⟨hx, hb, hr, hml, hown, hlk, hen, hro, hK, hnc, hns, hf1, hl1⟩ := Cx
  obtain ⟨c1, c2, c3, c4, c5, c6⟩ := hc
  obtain ⟨q0, hq⟩ := am_place hkey
  have he := am_enc_at (ad := ad) (ca := ca) (M := M) hq
  rw [am_cell_obj c1] at he
  have hts : ∀ w ∈ u_ws C Tt (am_nf t), w.before args s = true := fun w h => am_use hen (c3 w h).1 (c3 w h).2
  have hset2 : (am_enc ad ca M).set q0 (ad t i, .inr (am_ci t, ((List.range (am_nf t)).map (am_fv ad M t i)).set k v)) = am_enc ad ca M' := am_enc_set hq (by rw [am_cell_obj c1, hset]) ho
  have hl : k < ((List.range (am_nf t)).map (am_fv ad M t i)).length := by rw [List.length_map, List.length_range]; exact hk
  have kk2 : ∀ (H1 : Heap) (locs1 : List Loc), va_P D vwCl ((am_enc ad ca M).set q0 (ad t i, .inr (am_ci t, ((List.range (am_nf t)).map (am_fv ad M t i)).set k v))) H1 → va_D A ((am_enc ad ca M).set q0 (ad t i, .inr (am_ci t, ((List.range (am_nf t)).map (am_fv ad M t i)).set k v))) → va_S A s.heap H1 locs1 → W p l e R s m args below meth c H1 locs1 nc ns Q (F0 m (pc + 3) ls rest) := fun H1 locs1 h1 h2 h3 => kk H1 locs1 ⟨hset2 ▸ h1, hset2 ▸ h2⟩ h3
  rcases hw with hw | ⟨host, hw⟩
  · exact va_put (D := D) hx hb hts (fun _ h => h) ty0 c4 c5 hown hK hW.1 hW.2 hS q0 he c2 k hk (am_use hen hw rfl) (fun _ h => h) hfin (c4 k hk) hn hfit hl hd kk2
  · exact va_putN (D := D) hx hb hts (fun _ h => h) ty0 c4 c5 hown hK hW.1 hW.2 hS q0 he c2 k hk (am_use hen hw rfl) (fun _ h => h) hfin (c4 k hk) hn hfit hl hd kk2
/-- an int is put into a field: what the cells are then -/
theorem am_setF (v : Int32) (hk : k < am_nf t) (h0 : am_fk t k = 0 ∨ am_fk t k = 1) : ((List.range (am_nf t)).map (am_fv ad M t i)).set k (.int v) = (List.range (am_nf t)).map (am_fv ad (am_p t M (sF (am_s t M) t k i v)) t i) := by
  have hxk := am_xK_putF (t := t) (k := k) (i := i) (M := M) (v := v)
  refine am_range_set _ _ _ _ _ hk ?_ (fun j hj => ?_)
  · unfold am_fv
    rcases h0 with h0 | h0 <;> rw [h0] <;> show Value.int _ = _ <;> rw [am_xF_put, if_pos ⟨rfl, rfl, rfl⟩]
  · refine am_fv_eq (congrFun (congrArg Prod.fst hxk.1) i) (congrFun (congrArg Prod.snd hxk.2) j) ?_
    rw [am_xF_put, if_neg (fun h => hj h.2.1)]
theorem am_setF_o (v : Int32) (t' i' : Nat) (hne : (t', i') ≠ (t, i)) : am_cell ad ca (am_p t M (sF (am_s t M) t k i v)) t' i' = am_cell ad ca M t' i' := by
  have hxk := am_xK_putF (t := t) (k := k) (i := i) (M := M) (v := v)
  refine am_cell_eq (fun _ j _ => am_fv_eq (congrFun (congrArg Prod.fst hxk.1) i') (congrFun (congrArg Prod.snd hxk.2) j) ?_) (fun q => am_xA_putF _ _ _)
  rw [am_xF_put, if_neg (fun h => hne (by rw [h.1, h.2.2]))]
theorem am_setA_o (v : Int32) (q : Nat) (h0 : am_ak t ≠ 0) (t' i' : Nat) (hne : (t', i') ≠ (t, i)) : am_cell ad ca (am_p t M (sA (am_s t M) t i q v)) t' i' = am_cell ad ca M t' i' := by
  have hxk := am_xK_putA (t := t) (i := i) (q := q) (M := M) (v := v)
  refine am_cell_eq (fun _ j _ => am_fv_eq (congrFun (congrArg Prod.fst hxk.1) i') (congrFun (congrArg Prod.snd hxk.2) j) (am_xF_putA _ _ _)) (fun q' => ?_)
  rw [am_xA_put, if_neg (fun h => hne (by rw [h.1, h.2.1]))]
theorem am_setA_f (v : Int32) (q : Nat) : (fun q' => xA (am_s t (am_p t M (sA (am_s t M) t i q v))) t i q') = upd (fun q' => xA (am_s t M) t i q') q v := by
  funext q'
  rw [am_xA_put]
  unfold upd
  by_cases h : q' = q
  · rw [if_pos ⟨rfl, rfl, h⟩, if_pos h]
  · rw [if_neg (fun z => h z.2.2), if_neg h]
end SM
section SO2
variable {T : Nat → am_Me} {I : am_In} {pc : Nat} {t k index : Nat} {C : String} {Tt : u_T} {ty0 : Nat → FieldType}
theorem so_gi (hc : am_cf t C Tt ty0) (hk : k < am_nf t) (h0 : am_fk t k = 0 ∨ am_fk t k = 1) (hw : am_fl I.2.2.2 index (Tt k)) (hd : decode I.1 pc = .ok (.getfield index, 3)) : am_So T I pc (op_gi t k (pc + 3)) := by
  intro ad ca D A nc ns p l e R s m args below meth c Cx lv st M ok
  unfold op_gi
  dsimp only
  rcases st with _ | ⟨x | x | ⟨t', i⟩, st⟩
  · exact True.intro
  · exact True.intro
  · exact True.intro
  · dsimp only
    cases hb : Nat.beq t' t with
    | false => exact True.intro
    | true =>
      have e1 : t' = t := Nat.eq_of_beq_eq_true hb
      subst e1
      refine ⟨am_ok_c True.intro (am_ok_t ok), fun Q K H locs ls hW hS hl => ?_⟩
      refine am_getW Cx hc hk hw (am_key_of hc.2.2.2.2.2 (am_ok_h ok)) hW hd ?_
      have K := K H locs ls hW hS hl
      have e2 : am_fv ad M t' i k = .int (xF (am_s t' M) t' k i) := by
        unfold am_fv
        rcases h0 with h0 | h0 <;> rw [h0] <;> rfl
      rw [e2]
      exact K
theorem so_gr (hc : am_cf t C Tt ty0) (hk : k < am_nf t) (h0 : am_fk t k = 2) (hcl : ∀ i, (t, i) ∈ am_keys → am_ref t k i ∈ am_keys) (hw : am_fl I.2.2.2 index (Tt k)) (hd : decode I.1 pc = .ok (.getfield index, 3)) : am_So T I pc (op_gr t k (pc + 3)) := by
  intro ad ca D A nc ns p l e R s m args below meth c Cx lv st M ok
  unfold op_gr
  dsimp only
  rcases st with _ | ⟨x | x | ⟨t', i⟩, st⟩
  · exact True.intro
  · exact True.intro
  · exact True.intro
  · dsimp only
    cases hb : Nat.beq t' t with
    | false => exact True.intro
    | true =>
      have e1 : t' = t := Nat.eq_of_beq_eq_true hb
      subst e1
      have hkey := am_key_of hc.2.2.2.2.2 (am_ok_h ok)
      refine ⟨am_ok_c (Or.inl (hcl i hkey)) (am_ok_t ok), fun Q K H locs ls hW hS hl => ?_⟩
      refine am_getW Cx hc hk hw hkey hW hd ?_
      have K := K H locs ls hW hS hl
      have e2 : am_fv ad M t' i k = .ref (ad (am_ref t' k i).1 (am_ref t' k i).2) := by
        unfold am_fv
        rw [h0]
        rfl
      rw [e2]
      exact K
theorem so_gk (hc : am_cf 4 C Tt ty0) (hw : am_fl I.2.2.2 index (Tt 1)) (hd : decode I.1 pc = .ok (.getfield index, 3)) : am_So T I pc (op_gk (pc + 3)) := by
  intro ad ca D A nc ns p l e R s m args below meth c Cx lv st M ok
  unfold op_gk
  dsimp only
  rcases st with _ | ⟨x | x | ⟨t', i⟩, st⟩
  · exact True.intro
  · exact True.intro
  · exact True.intro
  · dsimp only
    cases hb : Nat.beq t' 4 with
    | false => exact True.intro
    | true =>
      have e1 : t' = 4 := Nat.eq_of_beq_eq_true hb
      subst e1
      have hkey := am_key_of hc.2.2.2.2.2 (am_ok_h ok)
      refine ⟨am_ok_c (Or.inr (Or.inl ⟨rfl, ok.2.2 i⟩)) (am_ok_t ok), fun Q K H locs ls hW hS hl => ?_⟩
      exact am_getW (k := 1) Cx hc (show 1 < am_nf 4 by decide) hw hkey hW hd (K H locs ls hW hS hl)
theorem so_gj (hc : am_cf 32 C Tt ty0) (hk : k < am_nf 32) (h0 : am_fk 32 k = 4) (hw : am_fl I.2.2.2 index (Tt k)) (hd : decode I.1 pc = .ok (.getfield index, 3)) : am_So T I pc (op_gj k (pc + 3)) := by
  intro ad ca D A nc ns p l e R s m args below meth c Cx lv st M ok
  unfold op_gj
  dsimp only
  rcases st with _ | ⟨x | x | ⟨t', i⟩, st⟩
  · exact True.intro
  · exact True.intro
  · exact True.intro
  · dsimp only
    cases hb : Nat.beq t' 32 with
    | false => exact True.intro
    | true =>
      have e1 : t' = 32 := Nat.eq_of_beq_eq_true hb
      subst e1
      have hkey := am_key_of hc.2.2.2.2.2 (am_ok_h ok)
      refine ⟨am_ok_c True.intro (am_ok_t ok), fun Q K H locs ls hW hS hl => ?_⟩
      refine am_getW Cx hc hk hw hkey hW hd ?_
      have K := K H locs ls hW hS hl
      have e2 : am_fv ad M 32 i k = .long (xL M.2 k) := by
        unfold am_fv
        rw [h0]
        rfl
      rw [e2]
      exact K
/-- a KIND's own number -/
theorem so_gn {f : List Int32} {n : String} (hq : ("ServedAhead$Kind", n, "I", f) ∈ am_kF) (hw : am_fl I.2.2.2 index ("ServedAhead$Kind", n, "I", false)) (hd : decode I.1 pc = .ok (.getfield index, 3)) : am_So T I pc (op_gn f (pc + 3)) := by
  intro ad ca D A nc ns p l e R s m args below meth c Cx lv st M ok
  unfold op_gn
  dsimp only
  rcases st with _ | ⟨x | x | ⟨t', i⟩, st⟩
  · exact True.intro
  · exact True.intro
  · exact True.intro
  · dsimp only
    cases hb : Nat.beq t' 20 with
    | false => exact True.intro
    | true =>
      have e1 : t' = 20 := Nat.eq_of_beq_eq_true hb
      subst e1
      have hi : i < 5 := by
        rcases am_ok_h ok with h | ⟨-, h⟩ | ⟨h, -⟩
        · exact absurd h (by
            intro h
            have hall : ∀ q ∈ am_keys, q.1 ≠ 20 := by decide +kernel
            exact hall _ h rfl)
        · exact h
        · rcases h with h | h | h <;> cases h
      refine ⟨am_ok_c True.intro (am_ok_t ok), fun Q K H locs ls hW hS hl => ?_⟩
      obtain ⟨hx, hb, hr, hml, hown, hlk, hen, hro, hK, hnc, hns, hf1, hl1⟩ := Cx
      have K := K H locs ls hW hS hl
      obtain ⟨cf, kf, fi, f', cell, h1, h2, h3, h4, h5, h6⟩ := ((hro.1.1 i hi).2.2 _ hq).kept hS.2.1
      rcases hw with hw | ⟨host, hw⟩
      · exact W.getf hx hb hown (am_use hen hw rfl) h1 h2 h3 h4 h5 rfl rfl hd K
      · exact va_Wgetf hx hb hown (am_use hen hw rfl) h1 h2 h3 h4 h5 rfl rfl hd K
theorem so_pi (hc : am_cf t C Tt ty0) (hk : k < am_nf t) (h0 : am_fk t k = 0 ∨ am_fk t k = 1) (hty : ty0 k = .int) (hfin : (Tt k).2.2.2 = false) (hw : am_fl I.2.2.2 index (Tt k)) (hd : decode I.1 pc = .ok (.putfield index, 3)) : am_So T I pc (op_pi t k (pc + 3)) := by
  intro ad ca D A nc ns p l e R s m args below meth c Cx lv st M ok
  unfold op_pi
  dsimp only
  rcases st with _ | ⟨v | v | v, _ | ⟨x | x | ⟨t', i⟩, st⟩⟩
  · exact True.intro
  · exact True.intro
  · exact True.intro
  · exact True.intro
  · dsimp only
    cases hb : Nat.beq t' t with
    | false => exact True.intro
    | true =>
      have e1 : t' = t := Nat.eq_of_beq_eq_true hb
      subst e1
      have hkey := am_key_of hc.2.2.2.2.2 (am_ok_h (am_ok_t ok))
      refine ⟨⟨ok.1, (am_ok_t (am_ok_t ok)).2.1, fun j => ?_⟩, fun Q K H locs ls hW hS hl => ?_⟩
      · show (am_p t' M (sF (am_s t' M) t' k i v)).1.2.2.1 j < 5
        rw [(am_xK_putF (t := t') (k := k) (i := i) (M := M) (v := v)).1]
        exact ok.2.2 j
      · exact am_putW Cx hc hk hw hfin (by rw [hty]; rfl) (by rw [hty]; rfl) hkey hW hS (am_setF v hk h0) (fun t2 i2 hne _ => am_setF_o v t2 i2 hne) hd (fun H1 locs1 h1 h2 => K H1 locs1 ls h1 h2 hl)
  all_goals exact True.intro
theorem so_pz (hc : am_cf t C Tt ty0) (hk : k < am_nf t) (h0 : am_fk t k = 0 ∨ am_fk t k = 1) (hty : ty0 k = .boolean) (hfin : (Tt k).2.2.2 = false) (hw : am_fl I.2.2.2 index (Tt k)) (hd : decode I.1 pc = .ok (.putfield index, 3)) : am_So T I pc (op_pz t k (pc + 3)) := by
  intro ad ca D A nc ns p l e R s m args below meth c Cx lv st M ok
  unfold op_pz
  dsimp only
  rcases st with _ | ⟨v | v | v, _ | ⟨x | x | ⟨t', i⟩, st⟩⟩
  · exact True.intro
  · exact True.intro
  · exact True.intro
  · exact True.intro
  · dsimp only
    cases hb : Nat.beq t' t with
    | false => exact True.intro
    | true =>
      have e1 : t' = t := Nat.eq_of_beq_eq_true hb
      subst e1
      have hkey := am_key_of hc.2.2.2.2.2 (am_ok_h (am_ok_t ok))
      by_cases hz : am_bz v = true
      · simp only [cond_true, if_pos hz]
        refine ⟨⟨ok.1, (am_ok_t (am_ok_t ok)).2.1, fun j => ?_⟩, fun Q K H locs ls hW hS hl => ?_⟩
        · show (am_p t' M (sF (am_s t' M) t' k i v)).1.2.2.1 j < 5
          rw [(am_xK_putF (t := t') (k := k) (i := i) (M := M) (v := v)).1]
          exact ok.2.2 j
        · exact am_putW Cx hc hk hw hfin (by rw [hty]; exact am_bz_nar hz) (by rw [hty]; exact am_bz_fit hz) hkey hW hS (am_setF v hk h0) (fun t2 i2 hne _ => am_setF_o v t2 i2 hne) hd (fun H1 locs1 h1 h2 => K H1 locs1 ls h1 h2 hl)
      · simp only [cond_true, if_neg hz]
  all_goals exact True.intro
end SO2
