/-! CLASS AND REFERENCE, side by side -/
/-- counters, page, picture, book: what there is beside law and people. lr laws read, g gains, a walks; pi whether pictured (Np, wp, Tp); ls the page; bg whether a book has begun, tl what it tells, sw its week, B of whom -/
def RC (x : am_X) (lr g a : Nat) (l : LW) (N w : Nat) (T : Nat → PS) (pi Np wp : Nat) (Tp : Nat → PS) (ls : List Nat) (bg : Nat) (tl : List Nat) (sw : Nat) (B : PS) : Prop :=
  (xF x 0 9 0 = nI lr ∧ xF x 0 10 0 = nI g ∧ xF x 0 11 0 = nI a ∧ xF x 0 8 0 = nI pi) ∧ cL x 0 l ∧ cT x 0 N w T ∧ cT x 1 Np wp Tp ∧ (xF x 1 2 0 = nI ls.length ∧ ∀ k, k < ls.length → xA x 8 0 k = nI (ls.getD k 0)) ∧ (xF x 7 2 0 = nI bg ∧ xF x 7 3 0 = nI tl.length ∧ ∀ k, k < tl.length → xA x 15 0 k = nI (tl.getD k 0)) ∧ (bg = 1 → xF x 7 4 0 = nI sw ∧ cP x 20 B)
/-- the reference's picture of number p -/
def mI (z : am_X) (p : Nat) (P : PS) : Prop := xA z 94 0 p = pG P ∧ xA z 95 0 p = nI (pO P) ∧ xA z 96 0 p = nI (pA P) ∧ xA z 97 0 p = nI (pZ P) ∧ xA z 98 0 p = nI (pC P).length ∧ ∀ k, k < (pC P).length → xA z 99 0 (12 * p + k) = nI ((pC P).getD k 0)
def RM (z : am_X) (lr g a : Nat) (l : LW) (N w : Nat) (T : Nat → PS) (pi Np wp : Nat) (Tp : Nat → PS) (ls : List Nat) (bg : Nat) (tl : List Nat) (sw : Nat) (B : PS) : Prop :=
  (xF z 32 0 0 = nI (if lr = 0 then 0 else 1) ∧ xF z 32 1 0 = nI lr ∧ xF z 32 15 0 = nI g ∧ xF z 32 35 0 = nI a ∧ xF z 32 51 0 = nI pi) ∧ mL z l ∧ mT z N w T ∧ (xF z 32 53 0 = nI Np ∧ xF z 32 52 0 = nI wp ∧ ∀ p, p < Np → mI z p (Tp p)) ∧ (xF z 32 16 0 = nI ls.length ∧ ∀ k, k < ls.length → xA z 57 0 k = nI (ls.getD k 0)) ∧ ((if bg = 1 then ∃ b, b < 4 ∧ xF z 32 32 0 = nI b else xF z 32 32 0 = -1) ∧ xF z 32 33 0 = nI tl.length ∧ ∀ k, k < tl.length → xA z 74 0 k = nI (tl.getD k 0)) ∧ (bg = 1 → xF z 32 36 0 = nI sw ∧ xF z 32 37 0 = nI (pK B) ∧ xF z 32 38 0 = pG B ∧ xF z 32 39 0 = nI (pO B) ∧ xF z 32 40 0 = nI (pC B).length ∧ ∀ k, k < (pC B).length → xA z 81 0 k = nI ((pC B).getD k 0))
/-- what holds of the numbers: tm bounds the weeks and the laws read -/
def RI (tm lr g a : Nat) (l : LW) (N w : Nat) (T : Nat → PS) (pi Np wp : Nat) (Tp : Nat → PS) (ls : List Nat) (bg : Nat) (tl : List Nat) (sw : Nat) (B : PS) : Prop :=
  (lr ≤ tm ∧ w ≤ tm ∧ wp ≤ tm ∧ sw ≤ tm ∧ tm ≤ 1000) ∧ (g ≤ 60 ∧ a ≤ 40 ∧ pi ≤ 1 ∧ bg ≤ 1) ∧ (N ≤ 4 ∧ Np ≤ N ∧ (pi = 0 → Np = 0)) ∧ (lr = 0 → N = 0) ∧ (lr = 0 ∨ lw_ok l) ∧ (l.2.2.2 ≤ 9 ∧ (lr = 0 → l.2.2.2 = 0)) ∧ (ls.length ≤ 30 ∧ ∀ c ∈ ls, 32 ≤ c ∧ c ≤ 126) ∧ (tl.length ≤ 5 ∧ (∀ v ∈ tl, v ≤ 999) ∧ (bg = 0 → tl = [])) ∧ (bg = 1 → pA B = 0 ∧ lr ≠ 0) ∧ (∀ i, i < N → cr_lap ((w : Int) - (l.2.2.2 : Int)) (pC (T i)) = pC (T i)) ∧ (∀ i, i < Np → pK (T i) = pK (Tp i))
def Rel (tm : Nat) (x z : am_X) : Prop := ∃ (lr g a : Nat) (l : LW) (N w : Nat) (T : Nat → PS) (pi Np wp : Nat) (Tp : Nat → PS) (ls : List Nat) (bg : Nat) (tl : List Nat) (sw : Nat) (B : PS), RC x lr g a l N w T pi Np wp Tp ls bg tl sw B ∧ RM z lr g a l N w T pi Np wp Tp ls bg tl sw B ∧ RI tm lr g a l N w T pi Np wp Tp ls bg tl sw B
/-- what is looked at in the class: all but the scratch rows -/
def oF (t k i : Nat) : Prop := (t = 0 ∧ i = 0) ∨ (t = 1 ∧ k = 2 ∧ i = 0) ∨ (t = 2 ∧ k = 3 ∧ i = 0) ∨ (t = 3 ∧ i < 2) ∨ ((t = 4 ∨ t = 5) ∧ (i < 8 ∨ i = 20)) ∨ (t = 7 ∧ (k = 2 ∨ k = 3 ∨ k = 4) ∧ i = 0)
def oA (t i : Nat) : Prop := (t = 8 ∧ i = 0) ∨ ((t = 9 ∨ t = 10 ∨ t = 11) ∧ i = 0) ∨ (t = 12 ∧ (i < 8 ∨ i = 20)) ∨ (t = 15 ∧ i = 0)
def eC (x x' : am_X) : Prop := (∀ t k i, oF t k i → xF x' t k i = xF x t k i) ∧ (∀ t i q, oA t i → xA x' t i q = xA x t i q) ∧ (∀ i, i < 8 ∨ i = 20 → xK x' i = xK x i) ∧ ((∀ i, xK x i < 5) → ∀ i, xK x' i < 5)
theorem eC.rf {x : am_X} : eC x x := ⟨fun _ _ _ _ => rfl, fun _ _ _ _ => rfl, fun _ _ => rfl, fun h => h⟩
theorem eC.tr {x y z : am_X} (h : eC x y) (h' : eC y z) : eC x z := ⟨fun t k i o => (h'.1 t k i o).trans (h.1 t k i o), fun t i q o => (h'.2.1 t i q o).trans (h.2.1 t i q o), fun i o => (h'.2.2.1 i o).trans (h.2.2.1 i o), fun hh => h'.2.2.2 (h.2.2.2 hh)⟩
theorem eC.cP {x x' : am_X} {i : Nat} {P : PS} (h : eC x x') (hi : i < 8 ∨ i = 20) (hc : cP x i P) : cP x' i P := by
  have f : ∀ k, xF x' 4 k i = xF x 4 k i := fun k => h.1 4 k i (Or.inr (Or.inr (Or.inr (Or.inr (Or.inl ⟨Or.inl rfl, hi⟩)))))
  have f5 : xF x' 5 1 i = xF x 5 1 i := h.1 5 1 i (Or.inr (Or.inr (Or.inr (Or.inr (Or.inl ⟨Or.inr rfl, hi⟩)))))
  exact ⟨hc.1, by rw [h.2.2.1 i hi]; exact hc.2.1, by rw [f]; exact hc.2.2.1, by rw [f]; exact hc.2.2.2.1, by rw [f]; exact hc.2.2.2.2.1, by rw [f]; exact hc.2.2.2.2.2.1, by rw [f5]; exact hc.2.2.2.2.2.2.1, hc.2.2.2.2.2.2.2.1, hc.2.2.2.2.2.2.2.2.1, fun k hk => by rw [h.2.1 12 i k (Or.inr (Or.inr (Or.inl ⟨rfl, hi⟩)))]; exact hc.2.2.2.2.2.2.2.2.2 k hk⟩
theorem eC.cT {x x' : am_X} {t N w : Nat} {T : Nat → PS} (h : eC x x') (ht : t < 2) (hc : cT x t N w T) : cT x' t N w T := ⟨hc.1, by rw [h.1 3 1 t (Or.inr (Or.inr (Or.inr (Or.inl ⟨rfl, ht⟩))))]; exact hc.2.1, by rw [h.1 3 2 t (Or.inr (Or.inr (Or.inr (Or.inl ⟨rfl, ht⟩))))]; exact hc.2.2.1, fun i hi => h.cP (Or.inl (by omega)) (hc.2.2.2 i hi)⟩
theorem eC.cL {x x' : am_X} {l : LW} (h : eC x x') (hc : cL x 0 l) : cL x' 0 l := ⟨fun d hd => ⟨by rw [h.2.1 9 0 d (Or.inr (Or.inl ⟨Or.inl rfl, rfl⟩))]; exact (hc.1 d hd).1, by rw [h.2.1 10 0 d (Or.inr (Or.inl ⟨Or.inr (Or.inl rfl), rfl⟩))]; exact (hc.1 d hd).2.1, by rw [h.2.1 11 0 d (Or.inr (Or.inl ⟨Or.inr (Or.inr rfl), rfl⟩))]; exact (hc.1 d hd).2.2⟩, by rw [h.1 2 3 0 (Or.inr (Or.inr (Or.inl ⟨rfl, rfl, rfl⟩)))]; exact hc.2⟩
theorem eC.RC {x x' : am_X} {lr g a : Nat} {l : LW} {N w : Nat} {T : Nat → PS} {pi Np wp : Nat} {Tp : Nat → PS} {ls : List Nat} {bg : Nat} {tl : List Nat} {sw : Nat} {B : PS} (h : eC x x') (hc : RC x lr g a l N w T pi Np wp Tp ls bg tl sw B) : RC x' lr g a l N w T pi Np wp Tp ls bg tl sw B := by
  obtain ⟨⟨c1, c2, c3, c4⟩, c5, c6, c7, ⟨c8, c9⟩, ⟨c10, c11, c12⟩, c13⟩ := hc
  have f0 : ∀ k, xF x' 0 k 0 = xF x 0 k 0 := fun k => h.1 0 k 0 (Or.inl ⟨rfl, rfl⟩)
  have f7 : ∀ k, k = 2 ∨ k = 3 ∨ k = 4 → xF x' 7 k 0 = xF x 7 k 0 := fun k hk => h.1 7 k 0 (Or.inr (Or.inr (Or.inr (Or.inr (Or.inr ⟨rfl, hk, rfl⟩)))))
  refine ⟨⟨by rw [f0]; exact c1, by rw [f0]; exact c2, by rw [f0]; exact c3, by rw [f0]; exact c4⟩, h.cL c5, h.cT (by omega) c6, h.cT (by omega) c7, ⟨by rw [h.1 1 2 0 (Or.inr (Or.inl ⟨rfl, rfl, rfl⟩))]; exact c8, fun k hk => by rw [h.2.1 8 0 k (Or.inl ⟨rfl, rfl⟩)]; exact c9 k hk⟩, ⟨by rw [f7 2 (by omega)]; exact c10, by rw [f7 3 (by omega)]; exact c11, fun k hk => by rw [h.2.1 15 0 k (Or.inr (Or.inr (Or.inr ⟨rfl, rfl⟩)))]; exact c12 k hk⟩, fun hb => ⟨by rw [f7 4 (by omega)]; exact (c13 hb).1, h.cP (Or.inr rfl) (c13 hb).2⟩⟩
theorem fP_eC {i : Nat} {x x' : am_X} {P : PS} (h : fP i x x') (hi : 8 ≤ i ∧ i ≠ 20) (hP : cP x' i P) : eC x x' := by
  refine ⟨fun t k j o => h.1 t k j (fun e => ?_), fun t j q o => h.2.1 t j q (fun e => ?_), fun j o => h.2.2.1 j (fun e => by omega), fun hh j => ?_⟩
  · unfold oF at o
    omega
  · unfold oA at o
    omega
  · by_cases e : j = i
    · rw [e, hP.2.1]
      exact hP.1.1
    · rw [h.2.2.1 j e]
      exact hh j
/-- what is looked at in the reference -/
def nF (k : Nat) : Prop := k = 0 ∨ k = 1 ∨ k = 2 ∨ k = 6 ∨ k = 7 ∨ k = 15 ∨ k = 16 ∨ k = 32 ∨ k = 33 ∨ k = 35 ∨ k = 36 ∨ k = 37 ∨ k = 38 ∨ k = 39 ∨ k = 40 ∨ k = 51 ∨ k = 52 ∨ k = 53
def nA (t q : Nat) : Prop := t = 43 ∨ t = 44 ∨ t = 45 ∨ ((48 ≤ t ∧ t ≤ 53) ∧ q < 4) ∨ (t = 54 ∧ q < 48) ∨ t = 57 ∨ t = 74 ∨ t = 81 ∨ (94 ≤ t ∧ t ≤ 99)
def eM (z z' : am_X) : Prop := (∀ k, nF k → xF z' 32 k 0 = xF z 32 k 0) ∧ (∀ t q, nA t q → xA z' t 0 q = xA z t 0 q)
theorem eM.rf {z : am_X} : eM z z := ⟨fun _ _ => rfl, fun _ _ _ => rfl⟩
theorem eM.tr {x y z : am_X} (h : eM x y) (h' : eM y z) : eM x z := ⟨fun k o => (h'.1 k o).trans (h.1 k o), fun t q o => (h'.2 t q o).trans (h.2 t q o)⟩
theorem eM.mC {z z' : am_X} {p : Nat} {cs : List Nat} (h : eM z z') (hp : p < 4) (hc : mC z p cs) : mC z' p cs := ⟨by rw [h.2 53 p (by unfold nA; omega)]; exact hc.1, hc.2.1, hc.2.2.1, fun k hk => by have := hc.2.1; rw [h.2 54 _ (by unfold nA; omega)]; exact hc.2.2.2 k hk⟩
theorem eM.mP {z z' : am_X} {p : Nat} {P : PS} (h : eM z z') (hp : p < 4) (hc : mP z p P) : mP z' p P := ⟨⟨hc.1.1, hc.1.2.1, by rw [h.2 48 p (by unfold nA; omega)]; exact hc.1.2.2.1, by rw [h.2 49 p (by unfold nA; omega)]; exact hc.1.2.2.2.1, by rw [h.2 50 p (by unfold nA; omega)]; exact hc.1.2.2.2.2.1, h.mC hp hc.1.2.2.2.2.2⟩, hc.2.1, hc.2.2.1, by rw [h.2 51 p (by unfold nA; omega)]; exact hc.2.2.2.1, by rw [h.2 52 p (by unfold nA; omega)]; exact hc.2.2.2.2⟩
theorem eM.mT {z z' : am_X} {N w : Nat} {T : Nat → PS} (h : eM z z') (hc : mT z N w T) : mT z' N w T := ⟨hc.1, by rw [h.1 7 (by unfold nF; omega)]; exact hc.2.1, by rw [h.1 6 (by unfold nF; omega)]; exact hc.2.2.1, fun p hp => h.mP (by have := hc.1; omega) (hc.2.2.2 p hp)⟩
theorem eM.mL {z z' : am_X} {l : LW} (h : eM z z') (hc : mL z l) : mL z' l := ⟨fun d hd => ⟨by rw [h.2 43 d (by unfold nA; omega)]; exact (hc.1 d hd).1, by rw [h.2 44 d (by unfold nA; omega)]; exact (hc.1 d hd).2.1, by rw [h.2 45 d (by unfold nA; omega)]; exact (hc.1 d hd).2.2⟩, by rw [h.1 2 (by unfold nF; omega)]; exact hc.2⟩
theorem eM.mI {z z' : am_X} {p : Nat} {P : PS} (h : eM z z') (hc : mI z p P) : mI z' p P := ⟨by rw [h.2 94 p (by unfold nA; omega)]; exact hc.1, by rw [h.2 95 p (by unfold nA; omega)]; exact hc.2.1, by rw [h.2 96 p (by unfold nA; omega)]; exact hc.2.2.1, by rw [h.2 97 p (by unfold nA; omega)]; exact hc.2.2.2.1, by rw [h.2 98 p (by unfold nA; omega)]; exact hc.2.2.2.2.1, fun k hk => by rw [h.2 99 _ (by unfold nA; omega)]; exact hc.2.2.2.2.2 k hk⟩
theorem eM.RM {z z' : am_X} {lr g a : Nat} {l : LW} {N w : Nat} {T : Nat → PS} {pi Np wp : Nat} {Tp : Nat → PS} {ls : List Nat} {bg : Nat} {tl : List Nat} {sw : Nat} {B : PS} (h : eM z z') (hc : RM z lr g a l N w T pi Np wp Tp ls bg tl sw B) : RM z' lr g a l N w T pi Np wp Tp ls bg tl sw B := by
  obtain ⟨⟨c1, c2, c3, c4, c5⟩, c6, c7, ⟨c8, c9, c10⟩, ⟨c11, c12⟩, ⟨c13, c14, c15⟩, c16⟩ := hc
  refine ⟨⟨by rw [h.1 0 (by unfold nF; omega)]; exact c1, by rw [h.1 1 (by unfold nF; omega)]; exact c2, by rw [h.1 15 (by unfold nF; omega)]; exact c3, by rw [h.1 35 (by unfold nF; omega)]; exact c4, by rw [h.1 51 (by unfold nF; omega)]; exact c5⟩, h.mL c6, h.mT c7, ⟨by rw [h.1 53 (by unfold nF; omega)]; exact c8, by rw [h.1 52 (by unfold nF; omega)]; exact c9, fun p hp => h.mI (c10 p hp)⟩, ⟨by rw [h.1 16 (by unfold nF; omega)]; exact c11, fun k hk => by rw [h.2 57 k (by unfold nA; omega)]; exact c12 k hk⟩, ⟨by rw [h.1 32 (by unfold nF; omega)]; exact c13, by rw [h.1 33 (by unfold nF; omega)]; exact c14, fun k hk => by rw [h.2 74 k (by unfold nA; omega)]; exact c15 k hk⟩, fun hb => ⟨by rw [h.1 36 (by unfold nF; omega)]; exact (c16 hb).1, by rw [h.1 37 (by unfold nF; omega)]; exact (c16 hb).2.1, by rw [h.1 38 (by unfold nF; omega)]; exact (c16 hb).2.2.1, by rw [h.1 39 (by unfold nF; omega)]; exact (c16 hb).2.2.2.1, by rw [h.1 40 (by unfold nF; omega)]; exact (c16 hb).2.2.2.2.1, fun k hk => by rw [h.2 81 k (by unfold nA; omega)]; exact (c16 hb).2.2.2.2.2 k hk⟩⟩
theorem fQ.eM {z z' : am_X} (h : fQ 4 z z') : eM z z' := ⟨fun k _ => h.1 32 k 0, fun t q o => h.2.1 t 0 q (fun e => by unfold nA at o; omega) (fun e => by unfold nA at o; omega)⟩
theorem Rel.same {tm : Nat} {x x' z z' : am_X} (h : Rel tm x z) (hx : eC x x') (hz : eM z z') : Rel tm x' z' := by
  obtain ⟨lr, g, a, l, N, w, T, pi, Np, wp, Tp, ls, bg, tl, sw, B, h1, h2, h3⟩ := h
  exact ⟨lr, g, a, l, N, w, T, pi, Np, wp, Tp, ls, bg, tl, sw, B, hx.RC h1, hz.RM h2, h3⟩
theorem Rel.up {tm : Nat} {x z : am_X} (h : Rel tm x z) (ht : tm < 1000) : Rel (tm + 1) x z := by
  obtain ⟨lr, g, a, l, N, w, T, pi, Np, wp, Tp, ls, bg, tl, sw, B, h1, h2, h3⟩ := h
  obtain ⟨⟨a1, a2, a3, a4, a5⟩, a6⟩ := h3
  exact ⟨lr, g, a, l, N, w, T, pi, Np, wp, Tp, ls, bg, tl, sw, B, h1, h2, ⟨by omega, by omega, by omega, by omega, by omega⟩, a6⟩
/-- one call: both answer, they answer alike, and stand side by side -/
def Ok (tm : Nat) {α : Type} (r : Option (α × am_X)) (s : Option (α × am_X)) : Prop := ∃ v x' z', r = some (v, x') ∧ s = some (v, z') ∧ Rel (tm + 1) x' z' ∧ ∀ i, xK x' i < 5
