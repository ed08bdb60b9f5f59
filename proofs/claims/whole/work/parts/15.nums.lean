/-! PURE: numbers -/
theorem li (k : Nat) : (OfNat.ofNat k : Int32) = nI k := rfl
theorem li0 : (0 : Int32) = nI 0 := rfl
theorem li1 : (1 : Int32) = nI 1 := rfl
theorem li3 : (3 : Int32) = nI 3 := rfl
theorem li4 : (4 : Int32) = nI 4 := rfl
theorem li12 : (12 : Int32) = nI 12 := rfl
theorem am_inB_nI {a N : Nat} (h : a < N) (hN : N < 2 ^ 31) : am_inB (nI a) N = true := by
  unfold am_inB
  rw [nI_toInt (by omega)]
  simp only [Bool.and_eq_true, decide_eq_true_eq]
  omega
theorem nI_c {a : Nat} (h : a < 2147483648) : (nI a).toNatClampNeg = a := nI_clamp h
theorem nI_lei {a b : Nat} (ha : a < 2147483648) (hb : b < 2147483648) : (nI a ≤ nI b) = (a ≤ b) := propext (nI_leI ha hb)
theorem nI_lti {a b : Nat} (ha : a < 2147483648) (hb : b < 2147483648) : (nI a < nI b) = (a < b) := propext (nI_ltI ha hb)
theorem nI_eqi {a b : Nat} (ha : a < 2147483648) (hb : b < 2147483648) : (nI a = nI b) = (a = b) := propext (nI_eq ha hb)
theorem nI_subi {a b : Nat} (h : b ≤ a) : nI a - nI b = nI (a - b) := pk_sub h
/-- getters behind setters -/
theorem xF_sF (x : am_X) (t k i t' k' i' : Nat) (v : Int32) : xF (sF x t k i v) t' k' i' = if t' = t ∧ k' = k ∧ i' = i then v else xF x t' k' i' := by
  by_cases h : t' = t ∧ k' = k ∧ i' = i
  · rw [if_pos h]
    obtain ⟨rfl, rfl, rfl⟩ := h
    exact am_u3_self _ _ _ _ _
  · rw [if_neg h]
    exact am_u3_ne _ _ h
theorem xA_sA (x : am_X) (t i q t' i' q' : Nat) (v : Int32) : xA (sA x t i q v) t' i' q' = if t' = t ∧ i' = i ∧ q' = q then v else xA x t' i' q' := by
  by_cases h : t' = t ∧ i' = i ∧ q' = q
  · rw [if_pos h]
    obtain ⟨rfl, rfl, rfl⟩ := h
    exact am_u3_self _ _ _ _ _
  · rw [if_neg h]
    exact am_u3_ne _ _ h
theorem xF_sA (x : am_X) (t i q t' k' i' : Nat) (v : Int32) : xF (sA x t i q v) t' k' i' = xF x t' k' i' := rfl
theorem xA_sF (x : am_X) (t k i t' i' q' : Nat) (v : Int32) : xA (sF x t k i v) t' i' q' = xA x t' i' q' := rfl
theorem xK_sF (x : am_X) (t k i j : Nat) (v : Int32) : xK (sF x t k i v) j = xK x j := rfl
theorem xK_sA (x : am_X) (t i q j : Nat) (v : Int32) : xK (sA x t i q v) j = xK x j := rfl
theorem xL_sF (x : am_X) (t k i j : Nat) (v : Int32) : xL (sF x t k i v) j = xL x j := rfl
theorem xL_sA (x : am_X) (t i q j : Nat) (v : Int32) : xL (sA x t i q v) j = xL x j := rfl
theorem xF_sK (x : am_X) (i v t' k' i' : Nat) : xF (sK x i v) t' k' i' = xF x t' k' i' := rfl
theorem xA_sK (x : am_X) (i v t' i' q' : Nat) : xA (sK x i v) t' i' q' = xA x t' i' q' := rfl
theorem xK_sK (x : am_X) (i v j : Nat) : xK (sK x i v) j = if j = i then v else xK x j := by
  by_cases h : j = i
  · rw [if_pos h, h]
    exact am_u1_self _ _ _
  · rw [if_neg h]
    exact am_u1_ne _ _ h
theorem xF_sL (x : am_X) (k t' k' i' : Nat) (v : Int64) : xF (sL x k v) t' k' i' = xF x t' k' i' := rfl
theorem xA_sL (x : am_X) (k t' i' q' : Nat) (v : Int64) : xA (sL x k v) t' i' q' = xA x t' i' q' := rfl
theorem xL_sL (x : am_X) (k k' : Nat) (v : Int64) : xL (sL x k v) k' = if k' = k then v else xL x k' := by
  by_cases h : k' = k
  · rw [if_pos h, h]
    exact am_u1_self _ _ _
  · rw [if_neg h]
    exact am_u1_ne _ _ h
theorem ob {α β : Type} (a : α) (f : α → Option β) : (some a).bind f = f a := rfl
/-! CREDITS: the reference's code c = 4 week + sort, the class's code 3 week + sort -/
def cr_e (c : Nat) : Nat := 3 * (c / 4) + c % 4
def cr_ok (c : Nat) : Prop := c % 4 < 3 ∧ c < 8000
theorem cr_e_div {c : Nat} (h : cr_ok c) : cr_e c / 3 = c / 4 := by
  unfold cr_e
  have := h.1
  omega
theorem cr_e_mod {c : Nat} (h : cr_ok c) : cr_e c % 3 = c % 4 := by
  unfold cr_e
  have := h.1
  omega
theorem cr_e_lt {c : Nat} (h : cr_ok c) : cr_e c < 6000 := by
  unfold cr_e
  have h1 := h.1
  have h2 := h.2
  omega
theorem cr_e_le {c d : Nat} (hc : cr_ok c) (hd : cr_ok d) : cr_e c ≤ cr_e d ↔ c ≤ d := by
  unfold cr_e
  have h1 := hc.1
  have h2 := hd.1
  omega
theorem nI_div {a d : Nat} (ha : a < 2147483648) (h0 : 0 < d) (hd : d < 2147483648) : nI a / nI d = nI (a / d) := pk_div ha h0 hd
theorem nI_rem {a d : Nat} (ha : a < 2147483648) (h0 : 0 < d) (hd : d < 2147483648) : nI a - nI a / nI d * nI d = nI (a % d) := pk_rem ha h0 hd
/-- a sort among sorts, as bits: both ways of asking -/
theorem cr_bit : ∀ s, s < 8 → ∀ k, k < 3 → ((nI s &&& ((1 : Int32) <<< (nI k &&& 31))) = 0 ↔ s.testBit k = false) := by decide +kernel
theorem cr_bitm : ∀ s, s < 8 → ∀ k, k < 3 → (((nI s >>> (nI k &&& 31)) &&& 1) = 1 ↔ s.testBit k = true) := by decide +kernel
def cr_has (s c : Nat) : Bool := s.testBit (c % 4)
theorem S_isOf {n c s : Nat} (x : am_X) (hc : cr_ok c) (hs : s < 8) : f_X0_isOf n (nI (cr_e c)) (nI s) x = some ((if cr_has s c then 1 else 0), x) := by
  unfold f_X0_isOf
  rw [li3, nI_rem (by have := cr_e_lt hc; omega) (by omega) (by omega), cr_e_mod hc]
  unfold cr_has
  by_cases h : s.testBit (c % 4) = true
  · rw [if_neg (fun z => by rw [cr_bit s hs _ hc.1] at z; rw [h] at z; cases z), if_pos h]
  · rw [if_pos ((cr_bit s hs _ hc.1).mpr (by simpa using h)), if_neg h]
theorem S_isOf_t {n c s : Nat} (x : am_X) (hc : cr_ok c) (hs : s < 8) (h : cr_has s c = true) : f_X0_isOf n (nI (cr_e c)) (nI s) x = some (1, x) := by
  rw [S_isOf x hc hs, h]
  rfl
theorem S_isOf_f {n c s : Nat} (x : am_X) (hc : cr_ok c) (hs : s < 8) (h : cr_has s c = false) : f_X0_isOf n (nI (cr_e c)) (nI s) x = some (0, x) := by
  rw [S_isOf x hc hs, h]
  rfl
theorem n10 : ¬ (1 : Int32) = 0 := by decide
theorem n01 : ¬ (0 : Int32) = 1 := by decide
/-- the class's Credits number i hold the list cs -/
def cC (x : am_X) (i : Nat) (cs : List Nat) : Prop := xF x 5 1 i = nI cs.length ∧ cs.length ≤ 12 ∧ (∀ c ∈ cs, cr_ok c) ∧ ∀ k, k < cs.length → xA x 12 i k = nI (cr_e (cs.getD k 0))
/-- nothing but the Credits number i has changed -/
def fC (i : Nat) (x x' : am_X) : Prop := (∀ t k j, ¬ (t = 5 ∧ k = 1 ∧ j = i) → xF x' t k j = xF x t k j) ∧ (∀ t j q, ¬ (t = 12 ∧ j = i) → xA x' t j q = xA x t j q) ∧ x'.2.2 = x.2.2
theorem fC.rf {i : Nat} {x : am_X} : fC i x x := ⟨fun _ _ _ _ => rfl, fun _ _ _ _ => rfl, rfl⟩
theorem fC.tr {i : Nat} {x y z : am_X} (h : fC i x y) (h' : fC i y z) : fC i x z := ⟨fun t k j hn => (h'.1 t k j hn).trans (h.1 t k j hn), fun t j q hn => (h'.2.1 t j q hn).trans (h.2.1 t j q hn), h'.2.2.trans h.2.2⟩
theorem cr_drop {cs : List Nat} {p : Nat} (h : p < cs.length) : cs.drop p = cs.getD p 0 :: cs.drop (p + 1) := by
  rw [List.drop_eq_getElem_cons h, List.getD_eq_getElem?_getD, List.getElem?_eq_getElem h]
  rfl
theorem cr_mem {cs : List Nat} {p : Nat} (h : p < cs.length) : cs.getD p 0 ∈ cs := by
  rw [List.getD_eq_getElem?_getD, List.getElem?_eq_getElem h]
  exact List.getElem_mem h
theorem cr_lt3 (c : Nat) (fw : Int32) (h1 : -100000 ≤ fw.toInt) (h2 : fw.toInt ≤ 100000) (hc : cr_ok c) : nI (cr_e c) < fw * 3 ↔ (((c / 4 : Nat) : Int) < fw.toInt) := by
  rw [Int32.lt_iff_toInt_lt, nI_toInt (by have := cr_e_lt hc; omega), Int32.toInt_mul]
  have h3 : (3 : Int32).toInt = 3 := by decide
  rw [h3, Int.bmod_eq_of_le (by omega) (by omega)]
  unfold cr_e
  have := hc.1
  omega
theorem S_howMany_lp {n i s : Nat} {fw : Int32} {x : am_X} {cs : List Nat} (h : cC x i cs) (hs : s < 8) (h1 : -100000 ≤ fw.toInt) (h2 : fw.toInt ≤ 100000) : ∀ (m p k a : Nat), p + m = cs.length → m < k → b_X0_howMany_5 n k i (nI s) fw (nI a) (nI p) x = some (nI (a + (cs.drop p).countP (fun c => decide (fw.toInt ≤ ((c / 4 : Nat) : Int)) && cr_has s c)), x) := by
  intro m
  induction m with
  | zero =>
    intro p k a hp hk
    obtain ⟨k, rfl⟩ : ∃ e, k = e + 1 := ⟨k - 1, by omega⟩
    rw [b_X0_howMany_5, h.1, if_pos (nI_le (by omega) (by have := h.2.1; omega)), List.drop_eq_nil_of_le (by omega)]
    rfl
  | succ m ih =>
    intro p k a hp hk
    obtain ⟨k, rfl⟩ : ∃ e, k = e + 1 := ⟨k - 1, by omega⟩
    have hl := h.2.1
    have hpl : p < cs.length := by omega
    have hok := h.2.2.1 _ (cr_mem hpl)
    rw [b_X0_howMany_5, h.1, if_neg (nI_ge hpl (by omega)), li12, if_neg (nI_ge (by omega) (by omega)), if_pos (am_inB_nI (by omega) (by omega)), nI_c (by omega), h.2.2.2 p hpl, cr_drop hpl, List.countP_cons]
    by_cases hlt : (((cs.getD p 0) / 4 : Nat) : Int) < fw.toInt
    · rw [if_pos ((cr_lt3 _ fw h1 h2 hok).mpr hlt)]
      unfold b_X0_howMany_51
      rw [li1, nI_add, ih (p + 1) k a (by omega) (by omega)]
      rw [if_neg (by simp only [Bool.and_eq_true, decide_eq_true_eq]; omega)]
      rfl
    · rw [if_neg (fun z => hlt ((cr_lt3 _ fw h1 h2 hok).mp z)), if_pos (am_inB_nI (by omega) (by omega)), S_isOf x hok hs, ob]
      unfold b_X0_howMany_51
      by_cases hb : cr_has s (cs.getD p 0) = true
      · rw [if_pos hb, if_neg (by show ¬ (1 : Int32) = 0; decide), li1, nI_add, nI_add, ih (p + 1) k (a + 1) (by omega) (by omega)]
        rw [if_pos (by simp only [Bool.and_eq_true, decide_eq_true_eq]; exact ⟨by omega, hb⟩)]
        congr 3
        omega
      · rw [if_neg hb, if_pos rfl, li1, nI_add, ih (p + 1) k a (by omega) (by omega)]
        rw [if_neg (by simp only [Bool.and_eq_true, decide_eq_true_eq]; exact fun z => hb z.2)]
        rfl
theorem S_howMany {n i s : Nat} {fw : Int32} {x : am_X} {cs : List Nat} (hn : 100 ≤ n) (h : cC x i cs) (hs : s < 8) (h1 : -100000 ≤ fw.toInt) (h2 : fw.toInt ≤ 100000) : f_X0_howMany n i (nI s) fw x = some (nI (cs.countP (fun c => decide (fw.toInt ≤ ((c / 4 : Nat) : Int)) && cr_has s c)), x) := by
  unfold f_X0_howMany
  have := S_howMany_lp (n := n) h hs h1 h2 cs.length 0 n 0 (by omega) (by have := h.2.1; omega)
  rw [li0, this, List.drop_zero, Nat.zero_add]
