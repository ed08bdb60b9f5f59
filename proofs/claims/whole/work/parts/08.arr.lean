/-! SOUNDNESS: longs and KINDs put, arrays, statics, switches -/
section SO3
variable {T : Nat → am_Me} {I : am_In} {pc : Nat} {t k index : Nat} {C : String} {Tt : u_T} {ty0 : Nat → FieldType}
theorem so_pj (hc : am_cf 32 C Tt ty0) (hk : k < am_nf 32) (h0 : am_fk 32 k = 4) (hty : ty0 k = .long) (hfin : (Tt k).2.2.2 = false) (hw : am_fl I.2.2.2 index (Tt k)) (hd : decode I.1 pc = .ok (.putfield index, 3)) : am_So T I pc (op_pj k (pc + 3)) := by
  intro ad ca D A nc ns p l e R s m args below meth c Cx lv st M ok
  unfold op_pj
  dsimp only
  rcases st with _ | ⟨v | v | v, _ | ⟨x | x | ⟨t', i⟩, st⟩⟩
  · exact True.intro
  · exact True.intro
  · exact True.intro
  · exact True.intro
  · exact True.intro
  · exact True.intro
  · exact True.intro
  · exact True.intro
  · dsimp only
    cases hb : Nat.beq t' 32 with
    | false => exact True.intro
    | true =>
      have e1 : t' = 32 := Nat.eq_of_beq_eq_true hb
      subst e1
      have hkey := am_key_of hc.2.2.2.2.2 (am_ok_h (am_ok_t ok))
      have hi : i = 0 := by
        have hall : ∀ q ∈ am_keys, q.1 = 32 → q.2 = 0 := by decide +kernel
        exact hall _ hkey rfl
      subst hi
      refine ⟨⟨ok.1, (am_ok_t (am_ok_t ok)).2.1, ok.2.2⟩, fun Q K H locs ls hW hS hl => ?_⟩
      refine am_putW (M' := (M.1, sL M.2 k v)) Cx hc hk hw hfin (by rw [hty]; rfl) (by rw [hty]; rfl) hkey hW hS ?_ (fun t2 i2 hne hk2 => ?_) hd (fun H1 locs1 h1 h2 => K H1 locs1 ls h1 h2 hl)
      · refine am_range_set _ _ _ _ _ hk ?_ (fun j hj => ?_)
        · unfold am_fv
          rw [h0]
          show Value.long (am_u1 M.2.2.2.2 k v k) = _
          rw [am_u1_self]
          rfl
        · exact am_fv_eq rfl (am_u1_ne _ _ hj) rfl
      · refine am_cell_eq (fun h0' j _ => ?_) (fun q => ?_)
        · have hall : ∀ q ∈ am_keys, q.1 ≠ 32 → ∀ j, j < am_nf q.1 → am_fk q.1 j ≠ 4 := by decide +kernel
          have hn4 := hall _ hk2 (fun h => hne (by
            have hall2 : ∀ q ∈ am_keys, q.1 = 32 → q.2 = 0 := by decide +kernel
            rw [show t2 = 32 from h, show i2 = 0 from hall2 _ hk2 h])) j (by assumption)
          have hF : xF (am_s t2 (M.1, sL M.2 k v)) t2 j i2 = xF (am_s t2 M) t2 j i2 := by
            unfold am_s
            cases Nat.ble 32 t2 <;> rfl
          show am_fv ad (M.1, sL M.2 k v) t2 i2 j = am_fv ad M t2 i2 j
          unfold am_fv
          rw [hF]
          split
          · rfl
          · rfl
          · rename_i h4
            exact absurd h4 hn4
          · rfl
        · unfold am_s
          cases Nat.ble 32 t2 <;> rfl
  all_goals exact True.intro
theorem so_pk (hc : am_cf 4 C Tt ty0) (hty : ty0 1 = .object "ServedAhead$Kind") (hfin : (Tt 1).2.2.2 = false) (hw : am_fl I.2.2.2 index (Tt 1)) (hd : decode I.1 pc = .ok (.putfield index, 3)) : am_So T I pc (op_pk (pc + 3)) := by
  intro ad ca D A nc ns p l e R s m args below meth c Cx lv st M ok
  unfold op_pk
  dsimp only
  rcases st with _ | ⟨v | v | ⟨t'', u⟩, _ | ⟨x | x | ⟨t', i⟩, st⟩⟩
  any_goals exact True.intro
  dsimp only
  cases hb : (Nat.beq t'' 20 && Nat.beq t' 4) with
  | false => exact True.intro
  | true =>
    rw [Bool.and_eq_true] at hb
    have e1 : t'' = 20 := Nat.eq_of_beq_eq_true hb.1
    have e2 : t' = 4 := Nat.eq_of_beq_eq_true hb.2
    subst e1
    subst e2
    have hkey := am_key_of hc.2.2.2.2.2 (am_ok_h (am_ok_t ok))
    have hu : u < 5 := by
      rcases am_ok_h ok with h | ⟨-, h⟩ | ⟨h, -⟩
      · exact absurd h (by
          intro h
          have hall : ∀ q ∈ am_keys, q.1 ≠ 20 := by decide +kernel
          exact hall _ h rfl)
      · exact h
      · rcases h with h | h | h <;> cases h
    have hxk : ∀ j, j ≠ i → xK (sK M.1 i u) j = xK M.1 j := fun j hj => am_u1_ne _ _ hj
    refine ⟨⟨ok.1, (am_ok_t (am_ok_t ok)).2.1, fun j => ?_⟩, fun Q K H locs ls hW hS hl => ?_⟩
    · show xK (sK M.1 i u) j < 5
      by_cases hj : j = i
      · rw [hj]
        show am_u1 M.1.2.2.1 i u i < 5
        rw [am_u1_self]
        exact hu
      · rw [hxk j hj]
        exact ok.2.2 j
    · have hFs : ∀ t2, am_s t2 (sK M.1 i u, M.2) = (bif Nat.ble 32 t2 then M.2 else sK M.1 i u) := fun t2 => rfl
      have hF : ∀ t2 j i2, xF (am_s t2 (sK M.1 i u, M.2)) t2 j i2 = xF (am_s t2 M) t2 j i2 := by
        intro t2 j i2
        unfold am_s
        cases Nat.ble 32 t2 <;> rfl
      have hA2 : ∀ t2 j i2, xA (am_s t2 (sK M.1 i u, M.2)) t2 j i2 = xA (am_s t2 M) t2 j i2 := by
        intro t2 j i2
        unfold am_s
        cases Nat.ble 32 t2 <;> rfl
      refine am_putW (k := 1) (M' := (sK M.1 i u, M.2)) Cx hc (show 1 < am_nf 4 by decide) hw hfin (by rw [hty]; rfl) (by rw [hty]; rfl) hkey hW hS ?_ (fun t2 i2 hne hk2 => ?_) hd (fun H1 locs1 h1 h2 => K H1 locs1 ls h1 h2 hl)
      · refine am_range_set _ _ _ _ _ (show 1 < am_nf 4 by decide) ?_ (fun j hj => ?_)
        · show Value.ref (ad 20 (am_u1 M.1.2.2.1 i u i)) = Value.ref (ad 20 u)
          rw [am_u1_self]
        · show am_fv ad (sK M.1 i u, M.2) 4 i j = am_fv ad M 4 i j
          unfold am_fv
          rw [hF]
          split
          · rfl
          · rename_i h3
            have h4 : ∀ j, j < 7 → am_fk 4 j = 3 → j = 1 := by decide +kernel
            have h5 : j < 7 := by
              rcases Nat.lt_or_ge j 7 with h | h
              · exact h
              · exfalso
                have h6 : am_fk 4 j = 0 := by
                  unfold am_fk
                  rw [List.getD_eq_getElem?_getD, List.getElem?_eq_none (Nat.le_trans (by decide) h)]
                  rfl
                rw [h6] at h3
                cases h3
            exact absurd (h4 j h5 h3) hj
          · rfl
          · rfl
      · refine am_cell_eq (fun h0' j _ => ?_) (fun q => hA2 _ _ _)
        show am_fv ad (sK M.1 i u, M.2) t2 i2 j = am_fv ad M t2 i2 j
        by_cases hi2 : i2 = i
        · have hall : ∀ q ∈ am_keys, q.1 ≠ 4 → ∀ j, j < am_nf q.1 → am_fk q.1 j ≠ 3 := by decide +kernel
          have hn3 := hall _ hk2 (fun h => hne (by rw [show t2 = 4 from h, hi2])) j (by assumption)
          unfold am_fv
          rw [hF]
          split
          · rfl
          · rename_i h3
            exact absurd h3 hn3
          · rfl
          · rfl
        · exact am_fv_eq (hxk i2 hi2) rfl (hF _ _ _)
/-- arrays -/
theorem so_al (h1 : am_ak t = 1 ∨ am_ak t = 3) (ht : t < 20 ∨ 32 ≤ t) (hd : decode I.1 pc = .ok (.arraylength, 1)) : am_So T I pc (op_al t (pc + 1)) := by
  intro ad ca D A nc ns p l e R s m args below meth c Cx lv st M ok
  unfold op_al
  dsimp only
  rcases st with _ | ⟨x | x | ⟨t', i⟩, st⟩
  any_goals exact True.intro
  dsimp only
  cases hb : Nat.beq t' t with
  | false => exact True.intro
  | true =>
    have e1 : t' = t := Nat.eq_of_beq_eq_true hb
    subst e1
    have hkey := am_key_of ht (am_ok_h ok)
    refine ⟨am_ok_c True.intro (am_ok_t ok), fun Q K H locs ls hW hS hl => ?_⟩
    obtain ⟨hx, hb, hr, hml, hown, hlk, hen, hro, hK, hnc, hns, hf1, hl1⟩ := Cx
    obtain ⟨q0, hq⟩ := am_place hkey
    have he := am_enc_at (ad := ad) (ca := ca) (M := M) hq
    rcases h1 with h1 | h1
    · rw [am_cell_int h1] at he
      exact va_alen hx hb hK hW.1 q0 0 he rfl rfl hd (K H locs ls hW hS hl)
    · rw [am_cell_per h1] at he
      exact va_alen hx hb hK hW.1 q0 2 he rfl rfl hd (K H locs ls hW hS hl)
theorem so_ia (ht : t < 20 ∨ 32 ≤ t) (hd : am_ak t = 1 ∧ decode I.1 pc = .ok (.iaload, 1) ∨ am_ak t = 2 ∧ decode I.1 pc = .ok (.baload, 1)) : am_So T I pc (op_ia t (pc + 1)) := by
  intro ad ca D A nc ns p l e R s m args below meth c Cx lv st M ok
  unfold op_ia
  dsimp only
  rcases st with _ | ⟨j | j | j, _ | ⟨x | x | ⟨t', i⟩, st⟩⟩
  any_goals exact True.intro
  dsimp only
  cases hb : Nat.beq t' t with
  | false => exact True.intro
  | true =>
    have e1 : t' = t := Nat.eq_of_beq_eq_true hb
    subst e1
    have hkey := am_key_of ht (am_ok_h (am_ok_t ok))
    by_cases hj : am_inB j (am_len t') = true
    · simp only [cond_true, if_pos hj]
      refine ⟨am_ok_c True.intro (am_ok_t (am_ok_t ok)), fun Q K H locs ls hW hS hl => ?_⟩
      obtain ⟨hx, hb, hr, hml, hown, hlk, hen, hro, hK, hnc, hns, hf1, hl1⟩ := Cx
      obtain ⟨q0, hq⟩ := am_place hkey
      have he := am_enc_at (ad := ad) (ca := ca) (M := M) hq
      rcases hd with ⟨h1, hd⟩ | ⟨h1, hd⟩
      · rw [am_cell_int h1] at he
        exact va_iald hx hb hK hW.1 q0 0 he rfl (am_inB_iff hj) hd (K H locs ls hW hS hl)
      · rw [am_cell_byte h1] at he
        exact va_bald hx hb hK hW.1 q0 1 he rfl (am_inB_iff hj) hd (K H locs ls hW hS hl)
    · simp only [cond_true, if_neg hj]
theorem so_is (ht : t < 20 ∨ 32 ≤ t) (h1 : am_ak t = 1) (hd : decode I.1 pc = .ok (.iastore, 1)) : am_So T I pc (op_is t (pc + 1)) := by
  intro ad ca D A nc ns p l e R s m args below meth c Cx lv st M ok
  unfold op_is
  dsimp only
  rcases st with _ | ⟨v | v | v, _ | ⟨j | j | j, _ | ⟨x | x | ⟨t', i⟩, st⟩⟩⟩
  any_goals exact True.intro
  dsimp only
  cases hb : Nat.beq t' t with
  | false => exact True.intro
  | true =>
    have e1 : t' = t := Nat.eq_of_beq_eq_true hb
    subst e1
    have hkey := am_key_of ht (am_ok_h (am_ok_t (am_ok_t ok)))
    by_cases hj : am_inB j (am_len t') = true
    · simp only [cond_true, if_pos hj]
      refine ⟨⟨ok.1, (am_ok_t (am_ok_t (am_ok_t ok))).2.1, fun j2 => ?_⟩, fun Q K H locs ls hW hS hl => ?_⟩
      · show (am_p t' M (sA (am_s t' M) t' i j.toNatClampNeg v)).1.2.2.1 j2 < 5
        rw [(am_xK_putA (t := t') (i := i) (q := j.toNatClampNeg) (M := M) (v := v)).1]
        exact ok.2.2 j2
      obtain ⟨hx, hb, hr, hml, hown, hlk, hen, hro, hK, hnc, hns, hf1, hl1⟩ := Cx
      obtain ⟨q0, hq⟩ := am_place hkey
      have he := am_enc_at (ad := ad) (ca := ca) (M := M) hq
      rw [am_cell_int h1] at he
      have hset := am_enc_set (ad := ad) (ca := ca) (M := M) (M' := am_p t' M (sA (am_s t' M) t' i j.toNatClampNeg v)) hq (x := .inl (ca 0, am_len t', .inl (upd (fun q' => xA (am_s t' M) t' i q') j.toNatClampNeg v))) (by rw [am_cell_int h1, am_setA_f]) (fun t2 i2 hne _ => am_setA_o v j.toNatClampNeg (by rw [h1]; decide) t2 i2 hne)
      exact va_iast hx hb hK hW.1 hW.2 hS q0 0 he rfl (am_inB_iff hj) hd (fun H1 locs1 a1 a2 a3 => K H1 locs1 ls ⟨hset ▸ a1, hset ▸ a2⟩ a3 hl)
    · simp only [cond_true, if_neg hj]
theorem so_bs (ht : t < 20 ∨ 32 ≤ t) (h1 : am_ak t = 2) (hd : decode I.1 pc = .ok (.bastore, 1)) : am_So T I pc (op_bs t (pc + 1)) := by
  intro ad ca D A nc ns p l e R s m args below meth c Cx lv st M ok
  unfold op_bs
  dsimp only
  rcases st with _ | ⟨v | v | v, _ | ⟨j | j | j, _ | ⟨x | x | ⟨t', i⟩, st⟩⟩⟩
  any_goals exact True.intro
  dsimp only
  cases hb : Nat.beq t' t with
  | false => exact True.intro
  | true =>
    have e1 : t' = t := Nat.eq_of_beq_eq_true hb
    subst e1
    have hkey := am_key_of ht (am_ok_h (am_ok_t (am_ok_t ok)))
    by_cases hj : am_inB j (am_len t') = true
    · simp only [cond_true, if_pos hj]
      refine ⟨⟨ok.1, (am_ok_t (am_ok_t (am_ok_t ok))).2.1, fun j2 => ?_⟩, fun Q K H locs ls hW hS hl => ?_⟩
      · show (am_p t' M (sA (am_s t' M) t' i j.toNatClampNeg v.toInt8.toInt32)).1.2.2.1 j2 < 5
        rw [(am_xK_putA (t := t') (i := i) (q := j.toNatClampNeg) (M := M) (v := v.toInt8.toInt32)).1]
        exact ok.2.2 j2
      obtain ⟨hx, hb, hr, hml, hown, hlk, hen, hro, hK, hnc, hns, hf1, hl1⟩ := Cx
      obtain ⟨q0, hq⟩ := am_place hkey
      have he := am_enc_at (ad := ad) (ca := ca) (M := M) hq
      rw [am_cell_byte h1] at he
      have hset := am_enc_set (ad := ad) (ca := ca) (M := M) (M' := am_p t' M (sA (am_s t' M) t' i j.toNatClampNeg v.toInt8.toInt32)) hq (x := .inl (ca 1, am_len t', .inl (upd (fun q' => xA (am_s t' M) t' i q') j.toNatClampNeg (vp_nar .byte v)))) (by rw [am_cell_byte h1, am_setA_f, vp_nar_byte]) (fun t2 i2 hne _ => am_setA_o _ j.toNatClampNeg (by rw [h1]; decide) t2 i2 hne)
      exact va_bast hx hb hK hW.1 hW.2 hS q0 1 he rfl (am_inB_iff hj) hd (fun H1 locs1 a1 a2 a3 => K H1 locs1 ls ⟨hset ▸ a1, hset ▸ a2⟩ a3 hl)
    · simp only [cond_true, if_neg hj]
theorem so_aa (ht : t < 20 ∨ 32 ≤ t) (h1 : am_ak t = 3) (hcl : ∀ i, (t, i) ∈ am_keys → ∀ q, q < am_len t → (4, am_el t i q) ∈ am_keys) (hd : decode I.1 pc = .ok (.aaload, 1)) : am_So T I pc (op_aa t (pc + 1)) := by
  intro ad ca D A nc ns p l e R s m args below meth c Cx lv st M ok
  unfold op_aa
  dsimp only
  rcases st with _ | ⟨j | j | j, _ | ⟨x | x | ⟨t', i⟩, st⟩⟩
  any_goals exact True.intro
  dsimp only
  cases hb : Nat.beq t' t with
  | false => exact True.intro
  | true =>
    have e1 : t' = t := Nat.eq_of_beq_eq_true hb
    subst e1
    have hkey := am_key_of ht (am_ok_h (am_ok_t ok))
    by_cases hj : am_inB j (am_len t') = true
    · simp only [cond_true, if_pos hj]
      have hlt : j.toNatClampNeg < am_len t' := Nat.not_le.mp fun q => am_inB_iff hj (Or.inr q)
      refine ⟨am_ok_c (Or.inl (hcl i hkey _ hlt)) (am_ok_t (am_ok_t ok)), fun Q K H locs ls hW hS hl => ?_⟩
      obtain ⟨hx, hb, hr, hml, hown, hlk, hen, hro, hK, hnc, hns, hf1, hl1⟩ := Cx
      obtain ⟨q0, hq⟩ := am_place hkey
      have he := am_enc_at (ad := ad) (ca := ca) (M := M) hq
      rw [am_cell_per h1] at he
      exact va_aldq hx hb hK hW.1 q0 2 he rfl (am_inB_iff hj) hd (K H locs ls hW hS hl)
    · simp only [cond_true, if_neg hj]
end SO3
