/-! SOUNDNESS: statics, switches, Math, calls, returns -/
theorem am_k20 {i : Nat} (h : am_vk 20 i) : i < 5 := by
  rcases h with h | ⟨-, h⟩ | ⟨h, -⟩
  · exact absurd h (by
      intro h
      have hall : ∀ q ∈ am_keys, q.1 ≠ 20 := by decide +kernel
      exact hall _ h rfl)
  · exact h
  · rcases h with h | h | h <;> cases h
theorem am_k2x {t i : Nat} (ht : t = 21 ∨ t = 22 ∨ t = 23) (h : am_vk t i) : i = 0 := by
  rcases h with h | ⟨h, -⟩ | ⟨-, h⟩
  · have hall : ∀ q ∈ am_keys, q.1 ≠ 21 ∧ q.1 ≠ 22 ∧ q.1 ≠ 23 := by decide +kernel
    have h2 := hall _ h
    rcases ht with rfl | rfl | rfl
    · exact absurd rfl h2.1
    · exact absurd rfl h2.2.1
    · exact absurd rfl h2.2.2
  · omega
  · exact h
section SO4
variable {T : Nat → am_Me} {I : am_In} {pc : Nat} {t k index : Nat}
theorem so_gs21 (hw : am_fl I.2.2.2 index ("ServedAhead", "ACTS", "[I", false)) (hd : decode I.1 pc = .ok (.getstatic index, 3)) : am_So T I pc (op_gs 21 0 (pc + 3)) := by
  intro ad ca D A nc ns p l e R s m args below meth c Cx lv st M ok
  refine ⟨am_ok_c (Or.inr (Or.inr ⟨Or.inl rfl, rfl⟩)) ok, fun Q K H locs ls hW hS hl => ?_⟩
  obtain ⟨hx, hb, hr, hml, hown, hlk, hen, hro, hK, hnc, hns, hf1, hl1⟩ := Cx
  rcases hw with hw | ⟨host, hw⟩
  · exact va_gets hx hb hro.2.1 hS hown (am_use hen hw rfl) (fun _ h => h) hd (K H locs ls hW hS hl)
  · exact va_getsN hx hb hro.2.1 hS hown (am_use hen hw rfl) (fun _ h => h) hd (K H locs ls hW hS hl)
theorem so_gs22 (hw : am_fl I.2.2.2 index ("ServedAhead$Kind", "ALL", "[LServedAhead$Kind;", false)) (hd : decode I.1 pc = .ok (.getstatic index, 3)) : am_So T I pc (op_gs 22 0 (pc + 3)) := by
  intro ad ca D A nc ns p l e R s m args below meth c Cx lv st M ok
  refine ⟨am_ok_c (Or.inr (Or.inr ⟨Or.inr (Or.inl rfl), rfl⟩)) ok, fun Q K H locs ls hW hS hl => ?_⟩
  obtain ⟨hx, hb, hr, hml, hown, hlk, hen, hro, hK, hnc, hns, hf1, hl1⟩ := Cx
  rcases hw with hw | ⟨host, hw⟩
  · exact va_gets hx hb hro.2.2.2.1 hS hown (am_use hen hw rfl) (fun _ h => h) hd (K H locs ls hW hS hl)
  · exact va_getsN hx hb hro.2.2.2.1 hS hown (am_use hen hw rfl) (fun _ h => h) hd (K H locs ls hW hS hl)
theorem so_gs20 {i : Nat} {n : String} (hi : i < 5) (hn : am_kn.getD i "" = n) (hw : am_fl I.2.2.2 index ("ServedAhead$Kind", n, "LServedAhead$Kind;", false)) (hd : decode I.1 pc = .ok (.getstatic index, 3)) : am_So T I pc (op_gs 20 i (pc + 3)) := by
  subst hn
  intro ad ca D A nc ns p l e R s m args below meth c Cx lv st M ok
  refine ⟨am_ok_c (Or.inr (Or.inl ⟨rfl, hi⟩)) ok, fun Q K H locs ls hW hS hl => ?_⟩
  obtain ⟨hx, hb, hr, hml, hown, hlk, hen, hro, hK, hnc, hns, hf1, hl1⟩ := Cx
  have hZ := (hro.1.1 i hi).1
  rcases hw with hw | ⟨host, hw⟩
  · exact va_gets hx hb hZ hS hown (am_use hen hw rfl) (fun _ h => h) hd (K H locs ls hW hS hl)
  · exact va_getsN hx hb hZ hS hown (am_use hen hw rfl) (fun _ h => h) hd (K H locs ls hW hS hl)
theorem so_tl21 (hd : decode I.1 pc = .ok (.arraylength, 1)) : am_So T I pc (op_tl 21 11 (pc + 1)) := by
  intro ad ca D A nc ns p l e R s m args below meth c Cx lv st M ok
  unfold op_tl
  dsimp only
  rcases st with _ | ⟨x | x | ⟨t', i⟩, st⟩
  any_goals exact True.intro
  dsimp only
  cases hb : Nat.beq t' 21 with
  | false => exact True.intro
  | true =>
    have e1 : t' = 21 := Nat.eq_of_beq_eq_true hb
    subst e1
    have hi : i = 0 := am_k2x (Or.inl rfl) (am_ok_h ok)
    subst hi
    refine ⟨am_ok_c True.intro (am_ok_t ok), fun Q K H locs ls hW hS hl => ?_⟩
    obtain ⟨hx, hb, hr, hml, hown, hlk, hen, hro, hK, hnc, hns, hf1, hl1⟩ := Cx
    exact va_tlen hx hb hro.2.2.1 hS rfl hd (K H locs ls hW hS hl)
theorem so_tl22 (hd : decode I.1 pc = .ok (.arraylength, 1)) : am_So T I pc (op_tl 22 5 (pc + 1)) := by
  intro ad ca D A nc ns p l e R s m args below meth c Cx lv st M ok
  unfold op_tl
  dsimp only
  rcases st with _ | ⟨x | x | ⟨t', i⟩, st⟩
  any_goals exact True.intro
  dsimp only
  cases hb : Nat.beq t' 22 with
  | false => exact True.intro
  | true =>
    have e1 : t' = 22 := Nat.eq_of_beq_eq_true hb
    subst e1
    have hi : i = 0 := am_k2x (Or.inr (Or.inl rfl)) (am_ok_h ok)
    subst hi
    refine ⟨am_ok_c True.intro (am_ok_t ok), fun Q K H locs ls hW hS hl => ?_⟩
    obtain ⟨hx, hb, hr, hml, hown, hlk, hen, hro, hK, hnc, hns, hf1, hl1⟩ := Cx
    exact va_tlen hx hb hro.2.2.2.2 hS rfl hd (K H locs ls hW hS hl)
theorem so_ti (hd : decode I.1 pc = .ok (.iaload, 1)) : am_So T I pc (op_ti (pc + 1)) := by
  intro ad ca D A nc ns p l e R s m args below meth c Cx lv st M ok
  unfold op_ti
  dsimp only
  rcases st with _ | ⟨j | j | j, _ | ⟨x | x | ⟨t', i⟩, st⟩⟩
  any_goals exact True.intro
  dsimp only
  cases hb : Nat.beq t' 21 with
  | false => exact True.intro
  | true =>
    have e1 : t' = 21 := Nat.eq_of_beq_eq_true hb
    subst e1
    have hi : i = 0 := am_k2x (Or.inl rfl) (am_ok_h (am_ok_t ok))
    subst hi
    by_cases hj : am_inB j 11 = true
    · simp only [cond_true, if_pos hj]
      refine ⟨am_ok_c True.intro (am_ok_t (am_ok_t ok)), fun Q K H locs ls hW hS hl => ?_⟩
      obtain ⟨hx, hb, hr, hml, hown, hlk, hen, hro, hK, hnc, hns, hf1, hl1⟩ := Cx
      exact va_ti hx hb hro.2.2.1 hS (am_inB_iff hj) rfl hd (K H locs ls hW hS hl)
    · simp only [cond_true, if_neg hj]
theorem so_tk (hd : decode I.1 pc = .ok (.aaload, 1)) : am_So T I pc (op_tk (pc + 1)) := by
  intro ad ca D A nc ns p l e R s m args below meth c Cx lv st M ok
  unfold op_tk
  dsimp only
  rcases st with _ | ⟨j | j | j, _ | ⟨x | x | ⟨t', i⟩, st⟩⟩
  any_goals exact True.intro
  dsimp only
  cases hb : Nat.beq t' 22 with
  | false => exact True.intro
  | true =>
    have e1 : t' = 22 := Nat.eq_of_beq_eq_true hb
    subst e1
    have hi : i = 0 := am_k2x (Or.inr (Or.inl rfl)) (am_ok_h (am_ok_t ok))
    subst hi
    by_cases hj : am_inB j 5 = true
    · simp only [cond_true, if_pos hj]
      have hlt : j.toNatClampNeg < 5 := Nat.not_le.mp fun q => am_inB_iff hj (Or.inr q)
      refine ⟨am_ok_c (Or.inr (Or.inl ⟨rfl, hlt⟩)) (am_ok_t (am_ok_t ok)), fun Q K H locs ls hW hS hl => ?_⟩
      obtain ⟨hx, hb, hr, hml, hown, hlk, hen, hro, hK, hnc, hns, hf1, hl1⟩ := Cx
      exact vb_tq hx hb hro.2.2.2.2 hS (am_inB_iff hj) rfl hd (K H locs ls hW hS hl)
    · simp only [cond_true, if_neg hj]
theorem so_aeq {off : Int} {tgt : Nat} (hd : decode I.1 pc = .ok (.if_acmp .eq off, 3)) (ht : (pc : Int) + off = (tgt : Int)) : am_So T I pc (op_aeq tgt (pc + 3)) := by
  intro ad ca D A nc ns p l e R s m args below meth c Cx lv st M ok
  unfold op_aeq
  dsimp only
  rcases st with _ | ⟨v | v | ⟨t1, u⟩, _ | ⟨x | x | ⟨t2, i⟩, st⟩⟩
  any_goals exact True.intro
  dsimp only
  cases hb : (Nat.beq t1 20 && Nat.beq t2 20) with
  | false => exact True.intro
  | true =>
    rw [Bool.and_eq_true] at hb
    have e1 : t1 = 20 := Nat.eq_of_beq_eq_true hb.1
    have e2 : t2 = 20 := Nat.eq_of_beq_eq_true hb.2
    subst e1
    subst e2
    have hu := am_k20 (am_ok_h ok)
    have hi := am_k20 (am_ok_h (am_ok_t ok))
    refine ⟨am_ok_t (am_ok_t ok), fun Q K H locs ls hW hS hl => ?_⟩
    obtain ⟨hx, hb, hr, hml, hown, hlk, hen, hro, hK, hnc, hns, hf1, hl1⟩ := Cx
    have K := K H locs ls hW hS hl
    refine lv_acmp_eq (rx := some (ad 20 i)) (ry := some (ad 20 u)) hx hb hd ht (fun h => ?_) (fun h => ?_)
    · rwa [if_pos (hro.1.2 i u hi hu (Option.some.inj h))] at K
    · rwa [if_neg (fun h2 => h (by rw [show i = u from h2]))] at K
theorem so_ane {off : Int} {tgt : Nat} (hd : decode I.1 pc = .ok (.if_acmp .ne off, 3)) (ht : (pc : Int) + off = (tgt : Int)) : am_So T I pc (op_ane tgt (pc + 3)) := by
  intro ad ca D A nc ns p l e R s m args below meth c Cx lv st M ok
  unfold op_ane
  dsimp only
  rcases st with _ | ⟨v | v | ⟨t1, u⟩, _ | ⟨x | x | ⟨t2, i⟩, st⟩⟩
  any_goals exact True.intro
  dsimp only
  cases hb : (Nat.beq t1 20 && Nat.beq t2 20) with
  | false => exact True.intro
  | true =>
    rw [Bool.and_eq_true] at hb
    have e1 : t1 = 20 := Nat.eq_of_beq_eq_true hb.1
    have e2 : t2 = 20 := Nat.eq_of_beq_eq_true hb.2
    subst e1
    subst e2
    have hu := am_k20 (am_ok_h ok)
    have hi := am_k20 (am_ok_h (am_ok_t ok))
    refine ⟨am_ok_t (am_ok_t ok), fun Q K H locs ls hW hS hl => ?_⟩
    obtain ⟨hx, hb, hr, hml, hown, hlk, hen, hro, hK, hnc, hns, hf1, hl1⟩ := Cx
    have K := K H locs ls hW hS hl
    refine lv_acmp_ne (rx := some (ad 20 i)) (ry := some (ad 20 u)) hx hb hd ht (fun h => ?_) (fun h => ?_)
    · rwa [if_pos (fun h2 => h (by rw [show i = u from h2]))] at K
    · rwa [if_neg (fun h2 => h2 (hro.1.2 i u hi hu (Option.some.inj h)))] at K
/-- a switch: offsets offs, where they lead tgs -/
theorem so_sw {dflt lo hi : Int} {offs : Array Int} {len : Nat} {tgs : List Nat} {dt : Nat} (hd : decode I.1 pc = .ok (.tableswitch dflt lo hi offs, len)) (hdt : (pc : Int) + dflt = (dt : Int)) (hlen : lo + (tgs.length : Int) = hi + 1) (ho : ∀ j, j < tgs.length → ∃ off, offs[j]? = some off ∧ (pc : Int) + off = ((tgs.getD j dt : Nat) : Int)) : am_So T I pc (op_sw lo tgs dt) := by
  intro ad ca D A nc ns p l e R s m args below meth c Cx lv st M ok
  unfold op_sw
  dsimp only
  rcases st with _ | ⟨x | x | x, st⟩
  any_goals exact True.intro
  refine ⟨am_ok_t ok, fun Q K H locs ls hW hS hl => ?_⟩
  obtain ⟨hx, hb, hr, hml, hown, hlk, hen, hro, hK, hnc, hns, hf1, hl1⟩ := Cx
  have K := K H locs ls hW hS hl
  by_cases h1 : x.toInt < lo
  · have e : am_sw lo tgs dt x = dt := by unfold am_sw; rw [if_pos h1]
    simp only [e] at K
    exact lv_tableOut hx hb hd (Or.inl h1) hdt K
  · by_cases h2 : hi < x.toInt
    · have e : am_sw lo tgs dt x = dt := by
        unfold am_sw
        rw [if_neg h1, List.getD_eq_getElem?_getD, List.getElem?_eq_none (by omega)]
        rfl
      simp only [e] at K
      exact lv_tableOut hx hb hd (Or.inr h2) hdt K
    · have hj : (x.toInt - lo).toNat < tgs.length := by omega
      obtain ⟨off, g1, g2⟩ := ho _ hj
      have e : am_sw lo tgs dt x = tgs.getD (x.toInt - lo).toNat dt := by unfold am_sw; rw [if_neg h1]
      simp only [e] at K
      exact lv_tableIn hx hb hd h1 h2 g1 g2 K
theorem so_max (hw : Cond.methodLink I.2.2.2 index Lib.Math.max.name ∈ lw_tbl) (h2 : Cond.static Lib.Math.max.name ∈ lw_tbl) (h3 : Cond.initialized "java/lang/Math" ∈ lw_tbl) (h4 : Cond.code Lib.Math.max.name Lib.Math.max.code 2 (some .int) ∈ lw_tbl) (hd : decode I.1 pc = .ok (.invokestatic index, 3)) : am_So T I pc (op_mm (fun x y => if x < y then y else x) (pc + 3)) := by
  intro ad ca D A nc ns p l e R s m args below meth c Cx lv st M ok
  unfold op_mm
  dsimp only
  rcases st with _ | ⟨y | y | y, _ | ⟨x | x | x, st⟩⟩
  any_goals exact True.intro
  dsimp only
  cases hb : Nat.ble (am_cs st) 8 with
  | false => exact True.intro
  | true =>
    have h8 := Nat.le_of_ble_eq_true hb
    refine ⟨am_ok_c True.intro (am_ok_t (am_ok_t ok)), fun Q K H locs ls hW hS hl => ?_⟩
    obtain ⟨hx, hb, hr, hml, hown, hlk, hen, hro, hK, hnc, hns, hf1, hl1⟩ := Cx
    exact va_mmax hx hb (by rw [hml]; exact hl.1.symm) hown (am_use hen hw rfl) (am_use hen h2 rfl) (am_use hen h3 rfl) (am_use hen h4 rfl) hf1 (by rw [am_cs_cat]; omega) hnc hns hd (K H locs ls hW hS hl)
theorem so_min (hw : Cond.methodLink I.2.2.2 index Lib.Math.min.name ∈ lw_tbl) (h2 : Cond.static Lib.Math.min.name ∈ lw_tbl) (h3 : Cond.initialized "java/lang/Math" ∈ lw_tbl) (h4 : Cond.code Lib.Math.min.name Lib.Math.min.code 2 (some .int) ∈ lw_tbl) (hd : decode I.1 pc = .ok (.invokestatic index, 3)) : am_So T I pc (op_mm (fun x y => if y < x then y else x) (pc + 3)) := by
  intro ad ca D A nc ns p l e R s m args below meth c Cx lv st M ok
  unfold op_mm
  dsimp only
  rcases st with _ | ⟨y | y | y, _ | ⟨x | x | x, st⟩⟩
  any_goals exact True.intro
  dsimp only
  cases hb : Nat.ble (am_cs st) 8 with
  | false => exact True.intro
  | true =>
    have h8 := Nat.le_of_ble_eq_true hb
    refine ⟨am_ok_c True.intro (am_ok_t (am_ok_t ok)), fun Q K H locs ls hW hS hl => ?_⟩
    obtain ⟨hx, hb, hr, hml, hown, hlk, hen, hro, hK, hnc, hns, hf1, hl1⟩ := Cx
    exact va_mmin hx hb (by rw [hml]; exact hl.1.symm) hown (am_use hen hw rfl) (am_use hen h2 rfl) (am_use hen h3 rfl) (am_use hen h4 rfl) hf1 (by rw [am_cs_cat]; omega) hnc hns hd (K H locs ls hW hS hl)
/-- returns -/
theorem so_vret (hrt : I.2.2.1 = none) (hd : decode I.1 pc = .ok (.return_, 1)) : am_So T I pc op_vret := by
  intro ad ca D A nc ns p l e R s m args below meth c Cx lv st M ok
  unfold op_vret
  dsimp only
  rcases st with _ | ⟨v, st⟩
  · have hpu : ∀ v, (none : Option am_V) = some v → am_ov v := (by intro v h; cases h)
    intro H locs ls hW hS hl
    obtain ⟨hx, hb, hr, hml, hown, hlk, hen, hro, hK, hnc, hns, hf1, hl1⟩ := Cx
    exact W.vret hx hb (hr.trans hrt) (fun t ht _ => ⟨rfl, ⟨hpu, ok.2.2⟩, by rw [ht]; exact hW, hS.F ht⟩) hS.2.2 hd
  · exact True.intro
theorem so_iret (hrt : I.2.2.1 = some .int) (hd : decode I.1 pc = .ok (.ireturn, 1)) : am_So T I pc op_iret := by
  intro ad ca D A nc ns p l e R s m args below meth c Cx lv st M ok
  unfold op_iret
  dsimp only
  rcases st with _ | ⟨x | x | x, _ | ⟨y, st⟩⟩
  any_goals exact True.intro
  have hpu : ∀ v, some (am_I x) = some v → am_ov v := (by intro v h; cases h; exact True.intro)
  intro H locs ls hW hS hl
  obtain ⟨hx, hb, hr, hml, hown, hlk, hen, hro, hK, hnc, hns, hf1, hl1⟩ := Cx
  exact W.iret hx hb (hr.trans hrt) (fun t ht _ => ⟨rfl, ⟨hpu, ok.2.2⟩, by rw [ht]; exact hW, hS.F ht⟩) hS.2.2 hd
theorem so_zret (hrt : I.2.2.1 = some .boolean) (hd : decode I.1 pc = .ok (.ireturn, 1)) : am_So T I pc op_zret := by
  intro ad ca D A nc ns p l e R s m args below meth c Cx lv st M ok
  unfold op_zret
  dsimp only
  rcases st with _ | ⟨x | x | x, _ | ⟨y, st⟩⟩
  any_goals exact True.intro
  dsimp only
  by_cases hz : am_bz x = true
  · simp only [if_pos hz]
    have hpu : ∀ v, some (am_I x) = some v → am_ov v := (by intro v h; cases h; exact True.intro)
    intro H locs ls hW hS hl
    obtain ⟨hx, hb, hr, hml, hown, hlk, hen, hro, hK, hnc, hns, hf1, hl1⟩ := Cx
    exact W.zret hx hb (hr.trans hrt) (am_bz_nar hz) (fun t ht _ => ⟨rfl, ⟨hpu, ok.2.2⟩, by rw [ht]; exact hW, hS.F ht⟩) hS.2.2 hd
  · simp only [if_neg hz]
theorem so_lret (hrt : I.2.2.1 = some .long) (hd : decode I.1 pc = .ok (.lreturn, 1)) : am_So T I pc op_lret := by
  intro ad ca D A nc ns p l e R s m args below meth c Cx lv st M ok
  unfold op_lret
  dsimp only
  rcases st with _ | ⟨x | x | x, _ | ⟨y, st⟩⟩
  any_goals exact True.intro
  have hpu : ∀ v, some (am_J x) = some v → am_ov v := (by intro v h; cases h; exact True.intro)
  intro H locs ls hW hS hl
  obtain ⟨hx, hb, hr, hml, hown, hlk, hen, hro, hK, hnc, hns, hf1, hl1⟩ := Cx
  exact W.lret hx hb (hr.trans hrt) (fun t ht _ => ⟨rfl, ⟨hpu, ok.2.2⟩, by rw [ht]; exact hW, hS.F ht⟩) hS.2.2 hd
theorem so_aret {cn : String} (hrt : I.2.2.1 = some (.object cn)) (hd : decode I.1 pc = .ok (.areturn, 1)) : am_So T I pc op_aret := by
  intro ad ca D A nc ns p l e R s m args below meth c Cx lv st M ok
  unfold op_aret
  dsimp only
  rcases st with _ | ⟨x | x | x, _ | ⟨y, st⟩⟩
  any_goals exact True.intro
  have hpu : ∀ v, some (.inr (.inr x)) = some v → am_ov v := (by intro v h; cases h; exact am_ok_h ok)
  intro H locs ls hW hS hl
  obtain ⟨hx, hb, hr, hml, hown, hlk, hen, hro, hK, hnc, hns, hf1, hl1⟩ := Cx
  exact W.aret hx hb (hr.trans hrt) (Or.inl ⟨cn, rfl⟩) (Or.inr ⟨_, rfl⟩) (fun t ht _ => ⟨rfl, ⟨hpu, ok.2.2⟩, by rw [ht]; exact hW, hS.F ht⟩) hS.2.2 hd
end SO4
