/-! THE PROGRAM AS A WHOLE; rules by which a method's body is held against a function -/
def am_pl : List (List (Nat × am_O)) := [pX0_copy, pX0_hasRoom, pX0_give, pX0_howMany, pX0_oldestWeek, pX0_dropOldest, pX0_dropAheadOf, pX0_moveTo, pX0_isOf, pX1_start, pX1_tryFrom, pX1_mostStill, pX2_isNumber, pX2_numbered, pX2_isA, pX2_needs, pX2_gets, pX2_owesFor, pX3_copy, pX3_termOf, pX3_worthOf, pX3_sortsOf, pX3_allTerms, pX3_firstThatCounts, pX4_close, pX4_open, pX4_hasRoom, pX4_write, pX4_walk, pX4_reckon, pX4_walkFrom, pX4_goOn, pX5_hasRoom, pX5_write, pX5_at, pX5_firstFault, pX5_isLaw, pX5_takes, pX5_takesTerm, pX5_takesWorth, pX5_takesColon, pX5_takesSort, pX5_takesEndOfDeed, pX5_takesLapse, pX6_begin, pX6_copy, pX6_told, pX6_enter, pX6_dropLapsed, pX6_isCovered, pX6_isFreeTo, pX6_does, pX6_earns, pX6_getsBy, pX6_owesAfter, pX7_copy, pX7_hasRoom, pX7_isKnown, pX7_isHere, pX7_one, pX7_welcome, pX7_passWeek, pX7_dropLapsed, pX7_forgive, pX7_someoneCovered, pX7_allGone, pX7_allOwed, pX7_allGot, pX7_allCredits, pX7_live, pX7_actByDraw, pX7_drawn, pX8_letter, pX8_blank, pX8_fault, pX8_law, pX8_deed, pX8_person, pX8_about, pX8_as, pX8_may, pX8_act, pX8_week, pX8_sell, pX8_leave, pX8_amnesty, pX8_gain, pX8_soon, pX8_kept, pX8_book, pX8_next, pX8_ways, pX8_owed, pX8_years, pX8_image, pX8_restore, pX8_count, pX8_digest, pX8_withDeed, pX8_withPerson, pX8_weeksOfServing, pX8_arePair, pX8_isDeed, pX8_isServing, pX8_isCoveredDeed, pX8_isBareDeed, pX8_isAct, pX8_actAt, pX9_within, pX9_has, pX9_letter, pX9_blank, pX9_nextState, pX9_sortState, pX9_readLaw, pX9_fault, pX9_law, pX9_isDeed, pX9_deedNow, pX9_deed, pX9_lapseOf, pX9_lapseAll, pX9_give, pX9_countOf, pX9_take, pX9_isThere, pX9_isPerson, pX9_person, pX9_personNow, pX9_about, pX9_as, pX9_isAct, pX9_needs, pX9_gets, pX9_isCovered, pX9_mayDo, pX9_doAct, pX9_serve, pX9_mayNow, pX9_may, pX9_act, pX9_goWeek, pX9_week, pX9_sell, pX9_leave, pX9_owesAll, pX9_amnesty, pX9_copy, pX9_keepRow, pX9_backRow, pX9_actBy, pX9_layGain, pX9_goRow, pX9_gain, pX9_soonBy, pX9_soonNow, pX9_soonTold, pX9_soon, pX9_canAny, pX9_keptNow, pX9_kept, pX9_book, pX9_next, pX9_layWays, pX9_tryRow, pX9_mayBook, pX9_ways, pX9_owed, pX9_save, pX9_back, pX9_draw, pX9_gotAll, pX9_yearsNow, pX9_years, pX9_image, pX9_restore, pX9_goneMany, pX9_creditsAll, pX9_howMany, pX9_count, pX9_mix, pX9_digest]
def am_PR (j : Nat) : Nat → am_O := am_tab (am_pl.getD j [])
set_option maxRecDepth 20000 in
theorem am_pl_so : ∀ e ∈ am_mt.zip am_pl, ∀ q ∈ e.2, am_So am_T (e.1.2.1, (e.1.2.2.1, (e.1.2.2.2, e.1.1.cls))) q.1 q.2 := List.forall_mem_cons.mpr ⟨qX0_copy, List.forall_mem_cons.mpr ⟨qX0_hasRoom, List.forall_mem_cons.mpr ⟨qX0_give, List.forall_mem_cons.mpr ⟨qX0_howMany, List.forall_mem_cons.mpr ⟨qX0_oldestWeek, List.forall_mem_cons.mpr ⟨qX0_dropOldest, List.forall_mem_cons.mpr ⟨qX0_dropAheadOf, List.forall_mem_cons.mpr ⟨qX0_moveTo, List.forall_mem_cons.mpr ⟨qX0_isOf, List.forall_mem_cons.mpr ⟨qX1_start, List.forall_mem_cons.mpr ⟨qX1_tryFrom, List.forall_mem_cons.mpr ⟨qX1_mostStill, List.forall_mem_cons.mpr ⟨qX2_isNumber, List.forall_mem_cons.mpr ⟨qX2_numbered, List.forall_mem_cons.mpr ⟨qX2_isA, List.forall_mem_cons.mpr ⟨qX2_needs, List.forall_mem_cons.mpr ⟨qX2_gets, List.forall_mem_cons.mpr ⟨qX2_owesFor, List.forall_mem_cons.mpr ⟨qX3_copy, List.forall_mem_cons.mpr ⟨qX3_termOf, List.forall_mem_cons.mpr ⟨qX3_worthOf, List.forall_mem_cons.mpr ⟨qX3_sortsOf, List.forall_mem_cons.mpr ⟨qX3_allTerms, List.forall_mem_cons.mpr ⟨qX3_firstThatCounts, List.forall_mem_cons.mpr ⟨qX4_close, List.forall_mem_cons.mpr ⟨qX4_open, List.forall_mem_cons.mpr ⟨qX4_hasRoom, List.forall_mem_cons.mpr ⟨qX4_write, List.forall_mem_cons.mpr ⟨qX4_walk, List.forall_mem_cons.mpr ⟨qX4_reckon, List.forall_mem_cons.mpr ⟨qX4_walkFrom, List.forall_mem_cons.mpr ⟨qX4_goOn, List.forall_mem_cons.mpr ⟨qX5_hasRoom, List.forall_mem_cons.mpr ⟨qX5_write, List.forall_mem_cons.mpr ⟨qX5_at, List.forall_mem_cons.mpr ⟨qX5_firstFault, List.forall_mem_cons.mpr ⟨qX5_isLaw, List.forall_mem_cons.mpr ⟨qX5_takes, List.forall_mem_cons.mpr ⟨qX5_takesTerm, List.forall_mem_cons.mpr ⟨qX5_takesWorth, List.forall_mem_cons.mpr ⟨qX5_takesColon, List.forall_mem_cons.mpr ⟨qX5_takesSort, List.forall_mem_cons.mpr ⟨qX5_takesEndOfDeed, List.forall_mem_cons.mpr ⟨qX5_takesLapse, List.forall_mem_cons.mpr ⟨qX6_begin, List.forall_mem_cons.mpr ⟨qX6_copy, List.forall_mem_cons.mpr ⟨qX6_told, List.forall_mem_cons.mpr ⟨qX6_enter, List.forall_mem_cons.mpr ⟨qX6_dropLapsed, List.forall_mem_cons.mpr ⟨qX6_isCovered, List.forall_mem_cons.mpr ⟨qX6_isFreeTo, List.forall_mem_cons.mpr ⟨qX6_does, List.forall_mem_cons.mpr ⟨qX6_earns, List.forall_mem_cons.mpr ⟨qX6_getsBy, List.forall_mem_cons.mpr ⟨qX6_owesAfter, List.forall_mem_cons.mpr ⟨qX7_copy, List.forall_mem_cons.mpr ⟨qX7_hasRoom, List.forall_mem_cons.mpr ⟨qX7_isKnown, List.forall_mem_cons.mpr ⟨qX7_isHere, List.forall_mem_cons.mpr ⟨qX7_one, List.forall_mem_cons.mpr ⟨qX7_welcome, List.forall_mem_cons.mpr ⟨qX7_passWeek, List.forall_mem_cons.mpr ⟨qX7_dropLapsed, List.forall_mem_cons.mpr ⟨qX7_forgive, List.forall_mem_cons.mpr ⟨qX7_someoneCovered, List.forall_mem_cons.mpr ⟨qX7_allGone, List.forall_mem_cons.mpr ⟨qX7_allOwed, List.forall_mem_cons.mpr ⟨qX7_allGot, List.forall_mem_cons.mpr ⟨qX7_allCredits, List.forall_mem_cons.mpr ⟨qX7_live, List.forall_mem_cons.mpr ⟨qX7_actByDraw, List.forall_mem_cons.mpr ⟨qX7_drawn, List.forall_mem_cons.mpr ⟨qX8_letter, List.forall_mem_cons.mpr ⟨qX8_blank, List.forall_mem_cons.mpr ⟨qX8_fault, List.forall_mem_cons.mpr ⟨qX8_law, List.forall_mem_cons.mpr ⟨qX8_deed, List.forall_mem_cons.mpr ⟨qX8_person, List.forall_mem_cons.mpr ⟨qX8_about, List.forall_mem_cons.mpr ⟨qX8_as, List.forall_mem_cons.mpr ⟨qX8_may, List.forall_mem_cons.mpr ⟨qX8_act, List.forall_mem_cons.mpr ⟨qX8_week, List.forall_mem_cons.mpr ⟨qX8_sell, List.forall_mem_cons.mpr ⟨qX8_leave, List.forall_mem_cons.mpr ⟨qX8_amnesty, List.forall_mem_cons.mpr ⟨qX8_gain, List.forall_mem_cons.mpr ⟨qX8_soon, List.forall_mem_cons.mpr ⟨qX8_kept, List.forall_mem_cons.mpr ⟨qX8_book, List.forall_mem_cons.mpr ⟨qX8_next, List.forall_mem_cons.mpr ⟨qX8_ways, List.forall_mem_cons.mpr ⟨qX8_owed, List.forall_mem_cons.mpr ⟨qX8_years, List.forall_mem_cons.mpr ⟨qX8_image, List.forall_mem_cons.mpr ⟨qX8_restore, List.forall_mem_cons.mpr ⟨qX8_count, List.forall_mem_cons.mpr ⟨qX8_digest, List.forall_mem_cons.mpr ⟨qX8_withDeed, List.forall_mem_cons.mpr ⟨qX8_withPerson, List.forall_mem_cons.mpr ⟨qX8_weeksOfServing, List.forall_mem_cons.mpr ⟨qX8_arePair, List.forall_mem_cons.mpr ⟨qX8_isDeed, List.forall_mem_cons.mpr ⟨qX8_isServing, List.forall_mem_cons.mpr ⟨qX8_isCoveredDeed, List.forall_mem_cons.mpr ⟨qX8_isBareDeed, List.forall_mem_cons.mpr ⟨qX8_isAct, List.forall_mem_cons.mpr ⟨qX8_actAt, List.forall_mem_cons.mpr ⟨qX9_within, List.forall_mem_cons.mpr ⟨qX9_has, List.forall_mem_cons.mpr ⟨qX9_letter, List.forall_mem_cons.mpr ⟨qX9_blank, List.forall_mem_cons.mpr ⟨qX9_nextState, List.forall_mem_cons.mpr ⟨qX9_sortState, List.forall_mem_cons.mpr ⟨qX9_readLaw, List.forall_mem_cons.mpr ⟨qX9_fault, List.forall_mem_cons.mpr ⟨qX9_law, List.forall_mem_cons.mpr ⟨qX9_isDeed, List.forall_mem_cons.mpr ⟨qX9_deedNow, List.forall_mem_cons.mpr ⟨qX9_deed, List.forall_mem_cons.mpr ⟨qX9_lapseOf, List.forall_mem_cons.mpr ⟨qX9_lapseAll, List.forall_mem_cons.mpr ⟨qX9_give, List.forall_mem_cons.mpr ⟨qX9_countOf, List.forall_mem_cons.mpr ⟨qX9_take, List.forall_mem_cons.mpr ⟨qX9_isThere, List.forall_mem_cons.mpr ⟨qX9_isPerson, List.forall_mem_cons.mpr ⟨qX9_person, List.forall_mem_cons.mpr ⟨qX9_personNow, List.forall_mem_cons.mpr ⟨qX9_about, List.forall_mem_cons.mpr ⟨qX9_as, List.forall_mem_cons.mpr ⟨qX9_isAct, List.forall_mem_cons.mpr ⟨qX9_needs, List.forall_mem_cons.mpr ⟨qX9_gets, List.forall_mem_cons.mpr ⟨qX9_isCovered, List.forall_mem_cons.mpr ⟨qX9_mayDo, List.forall_mem_cons.mpr ⟨qX9_doAct, List.forall_mem_cons.mpr ⟨qX9_serve, List.forall_mem_cons.mpr ⟨qX9_mayNow, List.forall_mem_cons.mpr ⟨qX9_may, List.forall_mem_cons.mpr ⟨qX9_act, List.forall_mem_cons.mpr ⟨qX9_goWeek, List.forall_mem_cons.mpr ⟨qX9_week, List.forall_mem_cons.mpr ⟨qX9_sell, List.forall_mem_cons.mpr ⟨qX9_leave, List.forall_mem_cons.mpr ⟨qX9_owesAll, List.forall_mem_cons.mpr ⟨qX9_amnesty, List.forall_mem_cons.mpr ⟨qX9_copy, List.forall_mem_cons.mpr ⟨qX9_keepRow, List.forall_mem_cons.mpr ⟨qX9_backRow, List.forall_mem_cons.mpr ⟨qX9_actBy, List.forall_mem_cons.mpr ⟨qX9_layGain, List.forall_mem_cons.mpr ⟨qX9_goRow, List.forall_mem_cons.mpr ⟨qX9_gain, List.forall_mem_cons.mpr ⟨qX9_soonBy, List.forall_mem_cons.mpr ⟨qX9_soonNow, List.forall_mem_cons.mpr ⟨qX9_soonTold, List.forall_mem_cons.mpr ⟨qX9_soon, List.forall_mem_cons.mpr ⟨qX9_canAny, List.forall_mem_cons.mpr ⟨qX9_keptNow, List.forall_mem_cons.mpr ⟨qX9_kept, List.forall_mem_cons.mpr ⟨qX9_book, List.forall_mem_cons.mpr ⟨qX9_next, List.forall_mem_cons.mpr ⟨qX9_layWays, List.forall_mem_cons.mpr ⟨qX9_tryRow, List.forall_mem_cons.mpr ⟨qX9_mayBook, List.forall_mem_cons.mpr ⟨qX9_ways, List.forall_mem_cons.mpr ⟨qX9_owed, List.forall_mem_cons.mpr ⟨qX9_save, List.forall_mem_cons.mpr ⟨qX9_back, List.forall_mem_cons.mpr ⟨qX9_draw, List.forall_mem_cons.mpr ⟨qX9_gotAll, List.forall_mem_cons.mpr ⟨qX9_yearsNow, List.forall_mem_cons.mpr ⟨qX9_years, List.forall_mem_cons.mpr ⟨qX9_image, List.forall_mem_cons.mpr ⟨qX9_restore, List.forall_mem_cons.mpr ⟨qX9_goneMany, List.forall_mem_cons.mpr ⟨qX9_creditsAll, List.forall_mem_cons.mpr ⟨qX9_howMany, List.forall_mem_cons.mpr ⟨qX9_count, List.forall_mem_cons.mpr ⟨qX9_mix, List.forall_mem_cons.mpr ⟨qX9_digest, fun _ h => absurd h List.not_mem_nil⟩⟩⟩⟩⟩⟩⟩⟩⟩⟩⟩⟩⟩⟩⟩⟩⟩⟩⟩⟩⟩⟩⟩⟩⟩⟩⟩⟩⟩⟩⟩⟩⟩⟩⟩⟩⟩⟩⟩⟩⟩⟩⟩⟩⟩⟩⟩⟩⟩⟩⟩⟩⟩⟩⟩⟩⟩⟩⟩⟩⟩⟩⟩⟩⟩⟩⟩⟩⟩⟩⟩⟩⟩⟩⟩⟩⟩⟩⟩⟩⟩⟩⟩⟩⟩⟩⟩⟩⟩⟩⟩⟩⟩⟩⟩⟩⟩⟩⟩⟩⟩⟩⟩⟩⟩⟩⟩⟩⟩⟩⟩⟩⟩⟩⟩⟩⟩⟩⟩⟩⟩⟩⟩⟩⟩⟩⟩⟩⟩⟩⟩⟩⟩⟩⟩⟩⟩⟩⟩⟩⟩⟩⟩⟩⟩⟩⟩⟩⟩⟩⟩⟩⟩⟩⟩⟩⟩⟩⟩⟩⟩⟩⟩⟩⟩⟩⟩⟩⟩⟩⟩⟩⟩⟩⟩⟩⟩⟩⟩⟩⟩⟩
theorem am_PR_so (j pc : Nat) : am_So am_T (am_inf am_T j) pc (am_PR j pc) := by
  refine am_tab_so (fun q hq => ?_) pc
  rw [List.getD_eq_getElem?_getD] at hq
  cases hj : am_pl[j]? with
  | none =>
    rw [hj] at hq
    exact absurd hq List.not_mem_nil
  | some l =>
    rw [hj] at hq
    have hlt : j < am_pl.length := (List.getElem?_eq_some_iff.mp hj).1
    have hm : am_mt[j]? = some (am_T j) := by
      unfold am_T
      rw [List.getD_eq_getElem?_getD]
      have hlt2 : j < am_mt.length := Nat.lt_of_lt_of_le hlt (by decide +kernel)
      rw [List.getElem?_eq_getElem hlt2]
      rfl
    have hz : (am_mt.zip am_pl)[j]? = some (am_T j, l) := by
      rw [List.getElem?_zip_eq_some]
      exact ⟨hm, hj⟩
    exact am_pl_so _ (List.mem_of_getElem? hz) q hq
theorem am_all (l : Launch) {d j : Nat} {as : List am_V} {M : am_W} {r : am_Q} (h : am_Ev am_PR d j as M r) (h1 : ∀ v ∈ as, am_ov v) (h2 : ∀ i, xK M.1 i < 5) (h3 : am_cs as ≤ (am_T j).2.2.1) : am_Mt l d (am_T j) as M r := am_snd l am_T_pl am_PR_so d j as M r h h1 h2 h3
theorem am_lp_mono {P : Nat → am_O} {C C' : Nat → List am_V → am_W → am_Q → Prop} (hC : ∀ j as M r, C j as M r → C' j as M r) : ∀ (n pc : Nat) (a : am_S) (r : am_Q), am_lp P C n pc a r → am_lp P C' n pc a r := by
  intro n
  induction n with
  | zero =>
    intro pc a r h
    exact h
  | succ n ih =>
    intro pc a r h
    rcases h with ⟨ks, h⟩ | h
    · exact Or.inl ⟨ks, ih _ _ _ h⟩
    · refine Or.inr ?_
      cases hz : P pc a with
      | none =>
        rw [hz] at h
        exact h
      | some z =>
        rw [hz] at h
        rcases z with b | b | b
        · exact ih _ _ _ h
        · obtain ⟨q, h1, h2⟩ := h
          exact ⟨q, hC _ _ _ _ h1, ih _ _ _ h2⟩
        · exact h
theorem am_Ev_succ {PR : Nat → Nat → am_O} : ∀ (d j : Nat) (as : List am_V) (M : am_W) (r : am_Q), am_Ev PR d j as M r → am_Ev PR (d + 1) j as M r := by
  intro d
  induction d with
  | zero =>
    intro j as M r h
    exact h.elim
  | succ d ih =>
    intro j as M r h
    obtain ⟨n, h⟩ := h
    exact ⟨n, am_lp_mono ih n _ _ _ h⟩
theorem am_Ev_le {PR : Nat → Nat → am_O} {d e j : Nat} {as : List am_V} {M : am_W} {r : am_Q} (h : e ≤ d) (he : am_Ev PR e j as M r) : am_Ev PR d j as M r := by
  induction d with
  | zero =>
    have : e = 0 := by omega
    subst this
    exact he
  | succ d ih =>
    rcases Nat.lt_or_ge e (d + 1) with h1 | h1
    · exact am_Ev_succ _ _ _ _ _ (ih (by omega))
    · have : e = d + 1 := by omega
      subst this
      exact he
def cvV0 (z : am_X) (q : am_X) : am_Q := (none, (q, z))
def cvI0 (z : am_X) (q : Int32 × am_X) : am_Q := (some (am_I q.1), (q.2, z))
def cvJ0 (z : am_X) (q : Int64 × am_X) : am_Q := (some (am_J q.1), (q.2, z))
def cvA0 (t : Nat) (z : am_X) (q : Nat × am_X) : am_Q := (some (am_R t q.1), (q.2, z))
def cvV1 (z : am_X) (q : am_X) : am_Q := (none, (z, q))
def cvI1 (z : am_X) (q : Int32 × am_X) : am_Q := (some (am_I q.1), (z, q.2))
def cvJ1 (z : am_X) (q : Int64 × am_X) : am_Q := (some (am_J q.1), (z, q.2))
/-- from pc and a on, whatever the function gives is what the machine comes to -/
def am_To {α : Type} (d : Nat) (P : Nat → am_O) (pc : Nat) (a : am_S) (cv : α → am_Q) (o : Option α) : Prop := ∀ r, o = some r → am_At am_PR d P pc a (cv r)
section TO
variable {α β : Type} {d : Nat} {P : Nat → am_O} {pc : Nat} {a : am_S} {cv : α → am_Q} {o o1 o2 : Option α}
theorem to_0 : am_To d P pc a cv none := fun _ h => by cases h
theorem to_go (k : Nat) {pc' : Nat} {a' : am_S} (h : am_run P k pc a = some (.inl (pc', a'))) (K : am_To d P pc' a' cv o) : am_To d P pc a cv o := fun r hr => am_go k h (K r hr)
theorem to_fg (ks : List Nat) {lv lv' : am_LV} {x : List am_V × am_W} (h : am_sel ks lv = lv') (K : am_To d P pc (lv', x) cv o) : am_To d P pc (lv, x) cv o := fun r hr => am_fg ks h (K r hr)
theorem to_if (k : Nat) {c : Prop} [Decidable c] {p1 p2 : Nat} {a' : am_S} (h : am_run P k pc a = some (.inl ((if c then p1 else p2), a'))) (K1 : c → am_To d P p1 a' cv o1) (K2 : ¬ c → am_To d P p2 a' cv o2) : am_To d P pc a cv (if c then o1 else o2) := by
  intro r hr
  by_cases hc : c
  · rw [if_pos hc] at hr
    exact am_bt k h hc (K1 hc r hr)
  · rw [if_neg hc] at hr
    exact am_bf k h hc (K2 hc r hr)
theorem to_gd (k pc1 : Nat) {a1 : am_S} {c : Prop} [Decidable c] {pc' : Nat} {a' : am_S} (h1 : am_run P k pc a = some (.inl (pc1, a1))) (h : P pc1 a1 = if c then some (.inl (pc', a')) else none) (K : c → am_To d P pc' a' cv o) : am_To d P pc a cv (if c then o else none) := by
  intro r hr
  by_cases hc : c
  · rw [if_pos hc] at hr
    exact am_go k h1 (am_go 1 (by unfold am_run; rw [h, if_pos hc]; rfl) (K hc r hr))
  · rw [if_neg hc] at hr
    cases hr
theorem to_gk (k pc1 : Nat) {a1 : am_S} {c : Prop} [Decidable c] {pc' : Nat} {a' : am_S} (h1 : am_run P k pc a = some (.inl (pc1, a1))) (h : P pc1 a1 = if c then some (.inl (pc', a')) else none) (hc : c) (K : am_To d P pc' a' cv o) : am_To d P pc a cv o := fun r hr => am_go k h1 (am_go 1 (by unfold am_run; rw [h, if_pos hc]; rfl) (K r hr))
theorem to_cl (k : Nat) {j : Nat} {as : List am_V} {pc' : Nat} {lv : am_LV} {st : List am_V} {M : am_W} (h : am_run P k pc a = some (.inr (.inl (j, (as, (pc', (lv, (st, M)))))))) {oc : Option β} {cb : β → am_Q} {K : β → Option α} (hq : ∀ q, oc = some q → am_Ev am_PR d j as M (cb q)) (KK : ∀ q, am_To d P pc' (lv, (am_push (cb q).1 st, (cb q).2)) cv (K q)) : am_To d P pc a cv (oc.bind K) := by
  intro r hr
  cases ho : oc with
  | none =>
    rw [ho] at hr
    cases hr
  | some q =>
    rw [ho] at hr
    exact am_cl k h (hq q ho) (KK q r hr)
theorem to_rt (k : Nat) {r : α} (h : am_run P k pc a = some (.inr (.inr (cv r)))) : am_To d P pc a cv (some r) := by
  intro r' hr
  cases hr
  exact am_rt k h
theorem to_rz (k pc1 : Nat) {a1 : am_S} {c : Prop} [Decidable c] {r : α} (h1 : am_run P k pc a = some (.inl (pc1, a1))) (h : P pc1 a1 = if c then some (.inr (.inr (cv r))) else none) : am_To d P pc a cv (if c then some r else none) := by
  intro r' hr
  by_cases hc : c
  · rw [if_pos hc] at hr
    cases hr
    exact am_go k h1 (am_rt 1 (by unfold am_run; rw [h, if_pos hc]))
  · rw [if_neg hc] at hr
    cases hr
theorem to_rk (k pc1 : Nat) {a1 : am_S} {c : Prop} [Decidable c] {r : α} (h1 : am_run P k pc a = some (.inl (pc1, a1))) (h : P pc1 a1 = if c then some (.inr (.inr (cv r))) else none) (hc : c) : am_To d P pc a cv (some r) := by
  intro r' hr
  cases hr
  exact am_go k h1 (am_rt 1 (by unfold am_run; rw [h, if_pos hc]))
theorem to_si (k : Nat) {lo : Int} {tgs : List Nat} {dt t : Nat} {x c : Int32} {a' : am_S} (h : am_run P k pc a = some (.inl (am_sw lo tgs dt x, a'))) (ht : am_sw lo tgs dt c = t) (K1 : x = c → am_To d P t a' cv o1) (K2 : ¬ x = c → am_To d P pc a cv o2) : am_To d P pc a cv (if x = c then o1 else o2) := by
  intro r hr
  by_cases hc : x = c
  · rw [if_pos hc] at hr
    refine am_go k h ?_
    rw [hc, ht]
    exact K1 hc r hr
  · rw [if_neg hc] at hr
    exact K2 hc r hr
theorem am_sw_d {lo : Int} {tgs : List Nat} {dt : Nat} {x : Int32} {cs : List Int32} (hcs : cs.map Int32.toInt = (List.range tgs.length).map (fun (j : Nat) => lo + (j : Int))) (hne : ∀ c ∈ cs, ¬ x = c) : am_sw lo tgs dt x = dt := by
  unfold am_sw
  split
  · rfl
  · rename_i h
    rcases Nat.lt_or_ge (x.toInt - lo).toNat tgs.length with h2 | h2
    · exfalso
      have hm : x.toInt ∈ cs.map Int32.toInt := by
        rw [hcs]
        exact List.mem_map.mpr ⟨(x.toInt - lo).toNat, List.mem_range.mpr h2, by omega⟩
      obtain ⟨c, hc, e⟩ := List.mem_map.mp hm
      exact hne c hc (Int32.toInt_inj.mp e.symm)
    · rw [List.getD_eq_getElem?_getD, List.getElem?_eq_none h2]
      rfl
theorem to_sd (k : Nat) {lo : Int} {tgs : List Nat} {dt : Nat} {x : Int32} {cs : List Int32} {a' : am_S} (h : am_run P k pc a = some (.inl (am_sw lo tgs dt x, a'))) (hcs : cs.map Int32.toInt = (List.range tgs.length).map (fun (j : Nat) => lo + (j : Int))) (hne : ∀ c ∈ cs, ¬ x = c) (K : am_To d P dt a' cv o) : am_To d P pc a cv o := fun r hr => am_go k h (by rw [am_sw_d hcs hne]; exact K r hr)
theorem to_ev {j : Nat} {as : List am_V} {M : am_W} (hP : am_PR j = P) {lv : am_LV} (hl : am_args 0 as = lv) (K : am_To d P 0 (lv, ([], M)) cv o) : ∀ r, o = some r → am_Ev am_PR (d + 1) j as M (cv r) := fun r hr => am_ev hP hl (K r hr)
end TO
