/-! THE LAYOUT: kinds of cells. 0 ServedAhead, 1 Page, 2 Law (0 statute, 1 draft), 3 Town (0 town, 1 picture, 2 trial), 4 Person (4 to a town; 12 spare, 13.. hunt, 20.. ledger), 5 Credits, 6 Hunt, 7 Ledger; arrays 8 letters, 9 terms, 10 worths, 11 sorts, 12 row, 13 Town.all, 14 Hunt.rows, 15 told, 16 Ledger.rows; 20 Kind, 21 ACTS, 22 ALL, 23 the script; 32 the reference, 40+k its array of slot k -/
def am_fkl : List (Nat × List Nat) := [(0, [2, 2, 2, 2, 2, 2, 2, 2, 1, 0, 0, 0]), (1, [2, 2, 0, 0, 0]), (2, [2, 2, 2, 0]), (3, [2, 0, 0, 0, 0]), (4, [2, 3, 0, 0, 1, 1]), (5, [2, 0]), (6, [2, 0, 0, 0, 0, 0]), (7, [2, 2, 1, 0, 0, 0, 0]), (32, [1, 0, 0, 2, 2, 2, 0, 0, 2, 2, 2, 2, 2, 2, 2, 0, 0, 2, 0, 1, 0, 0, 2, 2, 2, 2, 2, 2, 2, 2, 0, 0, 0, 0, 2, 0, 0, 0, 0, 0, 0, 2, 0, 0, 4, 0, 2, 2, 2, 2, 2, 1, 0, 0, 2, 2, 2, 2, 2, 2, 4])]
def am_look {α : Type} (l : List (Nat × α)) (d : α) (t : Nat) : α := match l with
  | [] => d
  | q :: r => bif Nat.beq q.1 t then q.2 else am_look r d t
/-- a slot: 0 int, 1 boolean, 2 a fixed reference, 3 a KIND, 4 a long -/
def am_fk (t k : Nat) : Nat := (am_look am_fkl [] t).getD k 0
def am_nf (t : Nat) : Nat := (am_look am_fkl [] t).length
def am_ci (t : Nat) : Nat := am_look [(0, 7), (1, 4), (2, 2), (3, 6), (4, 5), (5, 0), (6, 1), (7, 3), (32, 8)] 9 t
/-- 0 an object, 1 an array of ints, 2 of bytes, 3 of Persons -/
def am_akl : List (Nat × (Nat × Nat)) := [(8, (1, 30)), (9, (1, 4)), (10, (1, 4)), (11, (1, 4)), (12, (1, 12)), (13, (3, 4)), (14, (3, 7)), (15, (1, 5)), (16, (3, 5)), (43, (1, 4)), (44, (1, 4)), (45, (1, 4)), (48, (1, 5)), (49, (1, 5)), (50, (1, 5)), (51, (1, 5)), (52, (1, 5)), (53, (1, 5)), (54, (1, 60)), (57, (2, 30)), (62, (1, 4)), (63, (1, 4)), (64, (1, 4)), (65, (1, 8)), (66, (1, 8)), (67, (1, 8)), (68, (1, 96)), (69, (1, 8)), (74, (1, 5)), (81, (1, 12)), (86, (1, 4)), (87, (1, 4)), (88, (1, 4)), (89, (1, 4)), (90, (1, 48)), (94, (1, 4)), (95, (1, 4)), (96, (1, 4)), (97, (1, 4)), (98, (1, 4)), (99, (1, 48))]
def am_ak (t : Nat) : Nat := (am_look am_akl (0, 0) t).1
def am_len (t : Nat) : Nat := (am_look am_akl (0, 0) t).2
/-- where a fixed reference leads -/
def am_ref (t k i : Nat) : Nat × Nat := match t with
  | 0 => (match k with
    | 0 => (1, 0)
    | 1 => (2, 0)
    | 2 => (3, 0)
    | 3 => (3, 1)
    | 4 => (3, 2)
    | 5 => (4, 12)
    | 6 => (6, 0)
    | _ => (7, 0))
  | 1 => (match k with
    | 0 => (8, 0)
    | _ => (2, 1))
  | 2 => (match k with
    | 0 => (9, i)
    | 1 => (10, i)
    | _ => (11, i))
  | 7 => (match k with
    | 0 => (15, 0)
    | _ => (16, 0))
  | 3 => (13, i)
  | 4 => (5, i)
  | 5 => (12, i)
  | 6 => (14, 0)
  | _ => (40 + k, 0)
def am_el (t i q : Nat) : Nat := match t with
  | 13 => 4 * i + q
  | 14 => 13 + q
  | _ => 20 + q
def am_keys : List (Nat × Nat) := [(0, 0), (1, 0), (2, 0), (2, 1), (3, 0), (3, 1), (3, 2), (4, 0), (4, 1), (4, 2), (4, 3), (4, 4), (4, 5), (4, 6), (4, 7), (4, 8), (4, 9), (4, 10), (4, 11), (4, 12), (4, 13), (4, 14), (4, 15), (4, 16), (4, 17), (4, 18), (4, 19), (4, 20), (4, 21), (4, 22), (4, 23), (4, 24), (5, 0), (5, 1), (5, 2), (5, 3), (5, 4), (5, 5), (5, 6), (5, 7), (5, 8), (5, 9), (5, 10), (5, 11), (5, 12), (5, 13), (5, 14), (5, 15), (5, 16), (5, 17), (5, 18), (5, 19), (5, 20), (5, 21), (5, 22), (5, 23), (5, 24), (6, 0), (7, 0), (32, 0), (8, 0), (9, 0), (9, 1), (10, 0), (10, 1), (11, 0), (11, 1), (12, 0), (12, 1), (12, 2), (12, 3), (12, 4), (12, 5), (12, 6), (12, 7), (12, 8), (12, 9), (12, 10), (12, 11), (12, 12), (12, 13), (12, 14), (12, 15), (12, 16), (12, 17), (12, 18), (12, 19), (12, 20), (12, 21), (12, 22), (12, 23), (12, 24), (13, 0), (13, 1), (13, 2), (14, 0), (15, 0), (16, 0), (43, 0), (44, 0), (45, 0), (48, 0), (49, 0), (50, 0), (51, 0), (52, 0), (53, 0), (54, 0), (57, 0), (62, 0), (63, 0), (64, 0), (65, 0), (66, 0), (67, 0), (68, 0), (69, 0), (74, 0), (81, 0), (86, 0), (87, 0), (88, 0), (89, 0), (90, 0), (94, 0), (95, 0), (96, 0), (97, 0), (98, 0), (99, 0)]
def am_acts : List Int32 := [0, 1, 2, 10, 11, 12, 13, 20, 21, 22, 23]
def op_gr (t k nx : Nat) : am_O := fun a => match a.2.1 with
  | .inr (.inr q) :: r => bif Nat.beq q.1 t then some (.inl (nx, (a.1, (.inr (.inr (am_ref t k q.2)) :: r, a.2.2)))) else none
  | _ => none
def op_al (t nx : Nat) : am_O := fun a => match a.2.1 with
  | .inr (.inr q) :: r => bif Nat.beq q.1 t then some (.inl (nx, (a.1, (am_I (nI (am_len t)) :: r, a.2.2)))) else none
  | _ => none
/-- a place of an array of ints or bytes is read -/
def op_ia (t nx : Nat) : am_O := fun a => match a.2.1 with
  | .inl j :: .inr (.inr q) :: r => bif Nat.beq q.1 t then (if am_inB j (am_len t) = true then some (.inl (nx, (a.1, (am_I (xA (am_s t a.2.2) t q.2 j.toNatClampNeg) :: r, a.2.2)))) else none) else none
  | _ => none
def op_is (t nx : Nat) : am_O := fun a => match a.2.1 with
  | .inl v :: .inl j :: .inr (.inr q) :: r => bif Nat.beq q.1 t then (if am_inB j (am_len t) = true then some (.inl (nx, (a.1, (r, am_p t a.2.2 (sA (am_s t a.2.2) t q.2 j.toNatClampNeg v))))) else none) else none
  | _ => none
def op_bs (t nx : Nat) : am_O := fun a => match a.2.1 with
  | .inl v :: .inl j :: .inr (.inr q) :: r => bif Nat.beq q.1 t then (if am_inB j (am_len t) = true then some (.inl (nx, (a.1, (r, am_p t a.2.2 (sA (am_s t a.2.2) t q.2 j.toNatClampNeg v.toInt8.toInt32))))) else none) else none
  | _ => none
def op_aa (t nx : Nat) : am_O := fun a => match a.2.1 with
  | .inl j :: .inr (.inr q) :: r => bif Nat.beq q.1 t then (if am_inB j (am_len t) = true then some (.inl (nx, (a.1, (am_R 4 (am_el t q.2 j.toNatClampNeg) :: r, a.2.2)))) else none) else none
  | _ => none
/-- ACTS, and the KINDs' own array -/
def op_tl (t n nx : Nat) : am_O := fun a => match a.2.1 with
  | .inr (.inr q) :: r => bif Nat.beq q.1 t then some (.inl (nx, (a.1, (am_I (nI n) :: r, a.2.2)))) else none
  | _ => none
def op_ti (nx : Nat) : am_O := fun a => match a.2.1 with
  | .inl j :: .inr (.inr q) :: r => bif Nat.beq q.1 21 then (if am_inB j 11 = true then some (.inl (nx, (a.1, (am_I (am_acts.getD j.toNatClampNeg 0) :: r, a.2.2)))) else none) else none
  | _ => none
def op_tk (nx : Nat) : am_O := fun a => match a.2.1 with
  | .inl j :: .inr (.inr q) :: r => bif Nat.beq q.1 22 then (if am_inB j 5 = true then some (.inl (nx, (a.1, (am_R 20 j.toNatClampNeg :: r, a.2.2)))) else none) else none
  | _ => none
def op_si (xs : Nat → Int32) (L nx : Nat) : am_O := fun a => match a.2.1 with
  | .inl j :: .inr (.inr q) :: r => bif Nat.beq q.1 23 then (if am_inB j L = true then some (.inl (nx, (a.1, (am_I (xs j.toNatClampNeg) :: r, a.2.2)))) else none) else none
  | _ => none
