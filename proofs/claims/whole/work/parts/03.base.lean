/-! THE ABSTRACT MACHINE. Values: an int, a long, a reference (its kind, its number in that kind). Memory: of a kind's fields the ints, of its arrays the places, of persons the KIND, of longs the values; one for the class, one for the reference. -/
abbrev am_V : Type := Int32 ⊕ (Int64 ⊕ (Nat × Nat))
abbrev am_I (x : Int32) : am_V := .inl x
abbrev am_J (x : Int64) : am_V := .inr (.inl x)
abbrev am_R (t i : Nat) : am_V := .inr (.inr (t, i))
abbrev am_LV : Type := List (Nat × am_V)
abbrev am_X : Type := (Nat → Nat → Nat → Int32) × ((Nat → Nat → Nat → Int32) × ((Nat → Nat) × (Nat → Int64)))
abbrev am_W : Type := am_X × am_X
abbrev am_S : Type := am_LV × (List am_V × am_W)
abbrev am_Q : Type := Option am_V × am_W
abbrev am_Z : Type := (Nat × am_S) ⊕ ((Nat × (List am_V × (Nat × am_S))) ⊕ am_Q)
abbrev am_O : Type := am_S → Option am_Z
def xF (x : am_X) (t k i : Nat) : Int32 := x.1 t k i
def xA (x : am_X) (t i q : Nat) : Int32 := x.2.1 t i q
def xK (x : am_X) (i : Nat) : Nat := x.2.2.1 i
def xL (x : am_X) (k : Nat) : Int64 := x.2.2.2 k
def am_u3 {α : Type} (f : Nat → Nat → Nat → α) (a b c : Nat) (v : α) : Nat → Nat → Nat → α := fun a' b' c' => bif Nat.beq a' a && (Nat.beq b' b && Nat.beq c' c) then v else f a' b' c'
def am_u1 {α : Type} (f : Nat → α) (a : Nat) (v : α) : Nat → α := fun a' => bif Nat.beq a' a then v else f a'
def sF (x : am_X) (t k i : Nat) (v : Int32) : am_X := (am_u3 x.1 t k i v, x.2)
def sA (x : am_X) (t i q : Nat) (v : Int32) : am_X := (x.1, (am_u3 x.2.1 t i q v, x.2.2))
def sK (x : am_X) (i v : Nat) : am_X := (x.1, (x.2.1, (am_u1 x.2.2.1 i v, x.2.2.2)))
def sL (x : am_X) (k : Nat) (v : Int64) : am_X := (x.1, (x.2.1, (x.2.2.1, am_u1 x.2.2.2 k v)))
/-- which of the two memories a kind lies in -/
def am_s (t : Nat) (M : am_W) : am_X := bif Nat.ble 32 t then M.2 else M.1
def am_p (t : Nat) (M : am_W) (x : am_X) : am_W := bif Nat.ble 32 t then (M.1, x) else (x, M.2)
def am_isL (v : am_V) : Bool := match v with
  | .inr (.inl _) => true
  | _ => false
def am_get (lv : am_LV) (i : Nat) : Option am_V := match lv with
  | [] => none
  | q :: r => bif Nat.beq q.1 i then some q.2 else am_get r i
def am_st1 (lv : am_LV) (i : Nat) (v : am_V) : am_LV := (i, v) :: lv.filter (fun q => !(q.1 == i) && !(q.1 + 1 == i && am_isL q.2))
def am_st2 (lv : am_LV) (i : Nat) (v : am_V) : am_LV := (i, v) :: lv.filter (fun q => !(q.1 == i) && (!(q.1 == i + 1) && !(q.1 + 1 == i && am_isL q.2)))
def am_sel (ks : List Nat) (lv : am_LV) : am_LV := ks.filterMap (fun k => lv[k]?)
def am_in (i : Int32) (n : Nat) : Prop := 0 ≤ i.toInt ∧ i.toInt < n
def am_inB (i : Int32) (n : Nat) : Bool := decide (0 ≤ i.toInt) && decide (i.toInt < n)
def am_bz (v : Int32) : Bool := decide (v = 0) || decide (v = 1)
def am_args (i : Nat) (as : List am_V) : am_LV := match as with
  | [] => []
  | v :: vs => (i, v) :: am_args (bif am_isL v then i + 2 else i + 1) vs
def am_push (v : Option am_V) (st : List am_V) : List am_V := match v with
  | none => st
  | some v => v :: st
/-- the walk of a method's body: a step, a call by the calls' relation C, a return; locals may be forgotten -/
def am_lp (P : Nat → am_O) (C : Nat → List am_V → am_W → am_Q → Prop) : Nat → Nat → am_S → am_Q → Prop
  | 0, _, _, _ => False
  | n + 1, pc, a, r => (∃ ks, am_lp P C n pc (am_sel ks a.1, a.2) r) ∨ (match P pc a with
    | none => False
    | some (.inl b) => am_lp P C n b.1 b.2 r
    | some (.inr (.inl b)) => ∃ q : am_Q, C b.1 b.2.1 b.2.2.2.2.2 q ∧ am_lp P C n b.2.2.1 (b.2.2.2.1, (am_push q.1 b.2.2.2.2.1, q.2)) r
    | some (.inr (.inr q)) => r = q)
def am_Ev (PR : Nat → Nat → am_O) : Nat → Nat → List am_V → am_W → am_Q → Prop
  | 0, _, _, _, _ => False
  | d + 1, j, as, M, r => ∃ n, am_lp (PR j) (am_Ev PR d) n 0 (am_args 0 as, ([], M)) r
def am_At (PR : Nat → Nat → am_O) (d : Nat) (P : Nat → am_O) (pc : Nat) (a : am_S) (r : am_Q) : Prop := ∃ n, am_lp P (am_Ev PR d) n pc a r
def am_tab (l : List (Nat × am_O)) (pc : Nat) : am_O := match l with
  | [] => fun _ => none
  | q :: r => bif Nat.beq q.1 pc then q.2 else am_tab r pc
/-- k steps on -/
def am_run (P : Nat → am_O) : Nat → Nat → am_S → Option am_Z
  | 0, pc, a => some (.inl (pc, a))
  | k + 1, pc, a => match P pc a with
    | some (.inl b) => am_run P k b.1 b.2
    | some (.inr z) => (match k with
      | 0 => some (.inr z)
      | _ + 1 => none)
    | none => none
section AMR
variable {PR : Nat → Nat → am_O} {d : Nat} {P : Nat → am_O} {pc : Nat} {a : am_S} {r : am_Q}
theorem am_lp_run {C : Nat → List am_V → am_W → am_Q → Prop} : ∀ (k pc : Nat) (a : am_S) (pc' : Nat) (a' : am_S) (n : Nat), am_run P k pc a = some (.inl (pc', a')) → am_lp P C n pc' a' r → ∃ n', am_lp P C n' pc a r := by
  intro k
  induction k with
  | zero =>
    intro pc a pc' a' n h1 h2
    simp only [am_run, Option.some.injEq, Sum.inl.injEq, Prod.mk.injEq] at h1
    exact ⟨n, by rw [h1.1, h1.2]; exact h2⟩
  | succ k ih =>
    intro pc a pc' a' n h1 h2
    unfold am_run at h1
    split at h1
    · rename_i b hb
      obtain ⟨n', h3⟩ := ih _ _ _ _ _ h1 h2
      exact ⟨n' + 1, Or.inr (by rw [hb]; exact h3)⟩
    · split at h1 <;> cases h1
    · cases h1
theorem am_run_last {C : Nat → List am_V → am_W → am_Q → Prop} : ∀ (k pc : Nat) (a : am_S) (z : _), am_run P k pc a = some (.inr z) → (∀ (pc' : Nat) (a' : am_S), P pc' a' = some (.inr z) → ∃ n, am_lp P C n pc' a' r) → ∃ n', am_lp P C n' pc a r := by
  intro k
  induction k with
  | zero =>
    intro pc a z h1 h2
    cases h1
  | succ k ih =>
    intro pc a z h1 h2
    unfold am_run at h1
    split at h1
    · rename_i b hb
      obtain ⟨n', h3⟩ := ih _ _ _ h1 h2
      exact ⟨n' + 1, Or.inr (by rw [hb]; exact h3)⟩
    · rename_i z' hb
      split at h1
      · cases h1
        exact h2 pc a hb
      · cases h1
    · cases h1
/-- straight on -/
theorem am_go (k : Nat) {pc' : Nat} {a' : am_S} (h : am_run P k pc a = some (.inl (pc', a'))) (K : am_At PR d P pc' a' r) : am_At PR d P pc a r := by
  obtain ⟨n, K⟩ := K
  exact am_lp_run k pc a pc' a' n h K
/-- up to a test -/
theorem am_gt (k : Nat) {c : Prop} [Decidable c] {z : Option am_Z} (h : am_run P k pc a = if c then z else none) (hc : c) {pc' : Nat} {a' : am_S} (hz : z = some (.inl (pc', a'))) (K : am_At PR d P pc' a' r) : am_At PR d P pc a r :=
  am_go k (by rw [h, if_pos hc, hz]) K
/-- up to a branch -/
theorem am_bt (k : Nat) {c : Prop} [Decidable c] {p1 p2 : Nat} {a' : am_S} (h : am_run P k pc a = some (.inl ((if c then p1 else p2), a'))) (hc : c) (K : am_At PR d P p1 a' r) : am_At PR d P pc a r :=
  am_go k h (by rw [if_pos hc]; exact K)
theorem am_bf (k : Nat) {c : Prop} [Decidable c] {p1 p2 : Nat} {a' : am_S} (h : am_run P k pc a = some (.inl ((if c then p1 else p2), a'))) (hc : ¬ c) (K : am_At PR d P p2 a' r) : am_At PR d P pc a r :=
  am_go k h (by rw [if_neg hc]; exact K)
/-- a call -/
theorem am_cl (k : Nat) {j : Nat} {as : List am_V} {pc' : Nat} {lv : am_LV} {st : List am_V} {M : am_W} (h : am_run P k pc a = some (.inr (.inl (j, (as, (pc', (lv, (st, M)))))))) {q : am_Q} (hq : am_Ev PR d j as M q) (K : am_At PR d P pc' (lv, (am_push q.1 st, q.2)) r) : am_At PR d P pc a r := by
  obtain ⟨n, K⟩ := K
  exact am_run_last k pc a _ h (fun pc' a' hz => ⟨n + 1, Or.inr (by rw [hz]; exact ⟨q, hq, K⟩)⟩)
/-- the return -/
theorem am_rt (k : Nat) (h : am_run P k pc a = some (.inr (.inr r))) : am_At PR d P pc a r :=
  am_run_last k pc a _ h (fun pc' a' hz => ⟨1, Or.inr (by rw [hz])⟩)
theorem am_rg (k : Nat) {c : Prop} [Decidable c] (h : am_run P k pc a = if c then some (.inr (.inr r)) else none) (hc : c) : am_At PR d P pc a r :=
  am_rt k (by rw [h, if_pos hc])
theorem am_fg (ks : List Nat) {lv lv' : am_LV} {x : List am_V × am_W} (h : am_sel ks lv = lv') (K : am_At PR d P pc (lv', x) r) : am_At PR d P pc (lv, x) r := by
  obtain ⟨n, K⟩ := K
  exact ⟨n + 1, Or.inl ⟨ks, by rw [h]; exact K⟩⟩
theorem am_ev {j : Nat} {as : List am_V} {M : am_W} (hP : PR j = P) {lv : am_LV} (hl : am_args 0 as = lv) (K : am_At PR d P 0 (lv, ([], M)) r) : am_Ev PR (d + 1) j as M r := by
  obtain ⟨n, K⟩ := K
  exact ⟨n, by rw [hP, hl]; exact K⟩
end AMR
def am_cs (st : List am_V) : Nat := match st with
  | [] => 0
  | v :: r => (bif am_isL v then 2 else 1) + am_cs r
/-! ops -/
def op_li (i nx : Nat) : am_O := fun a => match am_get a.1 i with
  | some (.inl x) => some (.inl (nx, (a.1, (am_I x :: a.2.1, a.2.2))))
  | _ => none
def op_lj (i nx : Nat) : am_O := fun a => match am_get a.1 i with
  | some (.inr (.inl x)) => some (.inl (nx, (a.1, (am_J x :: a.2.1, a.2.2))))
  | _ => none
def op_lr (i nx : Nat) : am_O := fun a => match am_get a.1 i with
  | some (.inr (.inr q)) => some (.inl (nx, (a.1, (.inr (.inr q) :: a.2.1, a.2.2))))
  | _ => none
def op_c (v : Int32) (nx : Nat) : am_O := fun a => some (.inl (nx, (a.1, (am_I v :: a.2.1, a.2.2))))
def op_cj (v : Int64) (nx : Nat) : am_O := fun a => some (.inl (nx, (a.1, (am_J v :: a.2.1, a.2.2))))
def op_ist (i nx : Nat) : am_O := fun a => match a.2.1 with
  | .inl x :: r => some (.inl (nx, (am_st1 a.1 i (am_I x), (r, a.2.2))))
  | _ => none
def op_ast (i nx : Nat) : am_O := fun a => match a.2.1 with
  | .inr (.inr q) :: r => some (.inl (nx, (am_st1 a.1 i (.inr (.inr q)), (r, a.2.2))))
  | _ => none
def op_lst (i nx : Nat) : am_O := fun a => match a.2.1 with
  | .inr (.inl x) :: r => some (.inl (nx, (am_st2 a.1 i (am_J x), (r, a.2.2))))
  | _ => none
def op_iinc (i : Nat) (v : Int32) (nx : Nat) : am_O := fun a => match am_get a.1 i with
  | some (.inl x) => some (.inl (nx, (am_st1 a.1 i (am_I (x + v)), a.2)))
  | _ => none
/-- two ints to one -/
def op_ii (f : Int32 → Int32 → Int32) (nx : Nat) : am_O := fun a => match a.2.1 with
  | .inl y :: .inl x :: r => some (.inl (nx, (a.1, (am_I (f x y) :: r, a.2.2))))
  | _ => none
def op_mm (f : Int32 → Int32 → Int32) (nx : Nat) : am_O := fun a => match a.2.1 with
  | .inl y :: .inl x :: r => bif Nat.ble (am_cs r) 8 then some (.inl (nx, (a.1, (am_I (f x y) :: r, a.2.2)))) else none
  | _ => none
def op_iid (f : Int32 → Int32 → Int32) (nx : Nat) : am_O := fun a => match a.2.1 with
  | .inl y :: .inl x :: r => if ¬ y = 0 then some (.inl (nx, (a.1, (am_I (f x y) :: r, a.2.2)))) else none
  | _ => none
def op_jj (f : Int64 → Int64 → Int64) (nx : Nat) : am_O := fun a => match a.2.1 with
  | .inr (.inl y) :: .inr (.inl x) :: r => some (.inl (nx, (a.1, (am_J (f x y) :: r, a.2.2))))
  | _ => none
def op_jjd (f : Int64 → Int64 → Int64) (nx : Nat) : am_O := fun a => match a.2.1 with
  | .inr (.inl y) :: .inr (.inl x) :: r => if ¬ y = 0 then some (.inl (nx, (a.1, (am_J (f x y) :: r, a.2.2)))) else none
  | _ => none
def op_jji (f : Int64 → Int64 → Int32) (nx : Nat) : am_O := fun a => match a.2.1 with
  | .inr (.inl y) :: .inr (.inl x) :: r => some (.inl (nx, (a.1, (am_I (f x y) :: r, a.2.2))))
  | _ => none
def op_i2l (nx : Nat) : am_O := fun a => match a.2.1 with
  | .inl x :: r => some (.inl (nx, (a.1, (am_J x.toInt64 :: r, a.2.2))))
  | _ => none
def op_l2i (nx : Nat) : am_O := fun a => match a.2.1 with
  | .inr (.inl x) :: r => some (.inl (nx, (a.1, (am_I x.toInt32 :: r, a.2.2))))
  | _ => none
def op_i2b (nx : Nat) : am_O := fun a => match a.2.1 with
  | .inl x :: r => some (.inl (nx, (a.1, (am_I x.toInt8.toInt32 :: r, a.2.2))))
  | _ => none
def op_dup (nx : Nat) : am_O := fun a => match a.2.1 with
  | v :: r => bif am_isL v then none else some (.inl (nx, (a.1, (v :: v :: r, a.2.2))))
  | _ => none
def op_dup2 (nx : Nat) : am_O := fun a => match a.2.1 with
  | .inl y :: .inr (.inr q) :: r => some (.inl (nx, (a.1, (.inl y :: .inr (.inr q) :: .inl y :: .inr (.inr q) :: r, a.2.2))))
  | _ => none
def op_pop (nx : Nat) : am_O := fun a => match a.2.1 with
  | v :: r => bif am_isL v then none else some (.inl (nx, (a.1, (r, a.2.2))))
  | _ => none
def op_go (nx : Nat) : am_O := fun a => some (.inl (nx, a))
def op_if (f : Int32 → Prop) [DecidablePred f] (tg nx : Nat) : am_O := fun a => match a.2.1 with
  | .inl x :: r => some (.inl ((if f x then tg else nx), (a.1, (r, a.2.2))))
  | _ => none
def op_ic (f : Int32 → Int32 → Prop) [∀ x y, Decidable (f x y)] (tg nx : Nat) : am_O := fun a => match a.2.1 with
  | .inl y :: .inl x :: r => some (.inl ((if f x y then tg else nx), (a.1, (r, a.2.2))))
  | _ => none
/-- two KINDs -/
def op_aeq (tg nx : Nat) : am_O := fun a => match a.2.1 with
  | .inr (.inr q) :: .inr (.inr p) :: r => bif Nat.beq q.1 20 && Nat.beq p.1 20 then some (.inl ((if p.2 = q.2 then tg else nx), (a.1, (r, a.2.2)))) else none
  | _ => none
def op_ane (tg nx : Nat) : am_O := fun a => match a.2.1 with
  | .inr (.inr q) :: .inr (.inr p) :: r => bif Nat.beq q.1 20 && Nat.beq p.1 20 then some (.inl ((if ¬ p.2 = q.2 then tg else nx), (a.1, (r, a.2.2)))) else none
  | _ => none
def am_sw (lo : Int) (tgs : List Nat) (dflt : Nat) (x : Int32) : Nat := if x.toInt < lo then dflt else tgs.getD (x.toInt - lo).toNat dflt
def op_sw (lo : Int) (tgs : List Nat) (dflt : Nat) : am_O := fun a => match a.2.1 with
  | .inl x :: r => some (.inl (am_sw lo tgs dflt x, (a.1, (r, a.2.2))))
  | _ => none
/-- fields -/
def op_gi (t k nx : Nat) : am_O := fun a => match a.2.1 with
  | .inr (.inr q) :: r => bif Nat.beq q.1 t then some (.inl (nx, (a.1, (am_I (xF (am_s t a.2.2) t k q.2) :: r, a.2.2)))) else none
  | _ => none
def op_gj (k nx : Nat) : am_O := fun a => match a.2.1 with
  | .inr (.inr q) :: r => bif Nat.beq q.1 32 then some (.inl (nx, (a.1, (am_J (xL a.2.2.2 k) :: r, a.2.2)))) else none
  | _ => none
def op_gk (nx : Nat) : am_O := fun a => match a.2.1 with
  | .inr (.inr q) :: r => bif Nat.beq q.1 4 then some (.inl (nx, (a.1, (am_R 20 (xK a.2.2.1 q.2) :: r, a.2.2)))) else none
  | _ => none
/-- a KIND's number by a table -/
def op_gn (f : List Int32) (nx : Nat) : am_O := fun a => match a.2.1 with
  | .inr (.inr q) :: r => bif Nat.beq q.1 20 then some (.inl (nx, (a.1, (am_I (f.getD q.2 0) :: r, a.2.2)))) else none
  | _ => none
def op_pi (t k nx : Nat) : am_O := fun a => match a.2.1 with
  | .inl v :: .inr (.inr q) :: r => bif Nat.beq q.1 t then some (.inl (nx, (a.1, (r, am_p t a.2.2 (sF (am_s t a.2.2) t k q.2 v))))) else none
  | _ => none
def op_pz (t k nx : Nat) : am_O := fun a => match a.2.1 with
  | .inl v :: .inr (.inr q) :: r => bif Nat.beq q.1 t then (if am_bz v = true then some (.inl (nx, (a.1, (r, am_p t a.2.2 (sF (am_s t a.2.2) t k q.2 v))))) else none) else none
  | _ => none
def op_pj (k nx : Nat) : am_O := fun a => match a.2.1 with
  | .inr (.inl v) :: .inr (.inr q) :: r => bif Nat.beq q.1 32 then some (.inl (nx, (a.1, (r, (a.2.2.1, sL a.2.2.2 k v))))) else none
  | _ => none
def op_pk (nx : Nat) : am_O := fun a => match a.2.1 with
  | .inr (.inr u) :: .inr (.inr q) :: r => bif Nat.beq u.1 20 && Nat.beq q.1 4 then some (.inl (nx, (a.1, (r, (sK a.2.2.1 q.2 u.2, a.2.2.2))))) else none
  | _ => none
def op_gs (t i nx : Nat) : am_O := fun a => some (.inl (nx, (a.1, (am_R t i :: a.2.1, a.2.2))))
-- calls and returns
/-- j's number, how many arguments (with the receiver), how many words of locals it has -/
def op_cs (j n ml nx : Nat) : am_O := fun a => bif Nat.beq (a.2.1.take n).length n && (Nat.ble (am_cs (a.2.1.drop n)) 8 && Nat.ble (am_cs (a.2.1.take n).reverse) ml) then some (.inr (.inl (j, ((a.2.1.take n).reverse, (nx, (a.1, (a.2.1.drop n, a.2.2))))))) else none
def op_cv (t j n ml nx : Nat) : am_O := fun a => match (a.2.1.take n).reverse with
  | .inr (.inr q) :: _ => bif Nat.beq q.1 t then op_cs j n ml nx a else none
  | _ => none
def op_vret : am_O := fun a => match a.2.1 with
  | [] => some (.inr (.inr (none, a.2.2)))
  | _ => none
def op_iret : am_O := fun a => match a.2.1 with
  | [.inl x] => some (.inr (.inr (some (am_I x), a.2.2)))
  | _ => none
def op_zret : am_O := fun a => match a.2.1 with
  | [.inl x] => if am_bz x = true then some (.inr (.inr (some (am_I x), a.2.2))) else none
  | _ => none
def op_lret : am_O := fun a => match a.2.1 with
  | [.inr (.inl x)] => some (.inr (.inr (some (am_J x), a.2.2)))
  | _ => none
def op_aret : am_O := fun a => match a.2.1 with
  | [.inr (.inr q)] => some (.inr (.inr (some (.inr (.inr q)), a.2.2)))
  | _ => none
