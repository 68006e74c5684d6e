/-! THE DOCUMENT'S WORDS AS FUNCTIONS: types, classes, instructions as natural numbers -/
/-- the METHOD: super, face, own, mode, gives, arguments, code, handlers -/
abbrev sp_P : Type := (Nat → Nat) × (Nat → Bool) × Nat × Nat × Bool × List Nat × List (Nat × Nat × Nat) × List (Nat × Nat × Nat × Nat)
def pg_sup (P : sp_P) : Nat → Nat := P.1
def pg_face (P : sp_P) : Nat → Bool := P.2.1
def pg_own (P : sp_P) : Nat := P.2.2.1
def pg_mode (P : sp_P) : Nat := P.2.2.2.1
def pg_giv (P : sp_P) : Bool := P.2.2.2.2.1
def pg_arg (P : sp_P) : List Nat := P.2.2.2.2.2.1
def pg_cod (P : sp_P) : List (Nat × Nat × Nat) := P.2.2.2.2.2.2.1
def pg_han (P : sp_P) : List (Nat × Nat × Nat × Nat) := P.2.2.2.2.2.2.2
def pg_op (P : sp_P) (p : Nat) : Nat := ((pg_cod P).getD p (0, 0, 0)).1
def pg_a (P : sp_P) (p : Nat) : Nat := ((pg_cod P).getD p (0, 0, 0)).2.1
def pg_b (P : sp_P) (p : Nat) : Nat := ((pg_cod P).getD p (0, 0, 0)).2.2
def pg_n (P : sp_P) : Nat := (pg_cod P).length
/-- kinds: 0 TOP .. 8 RAW; a TYPE is 16 * part + kind -/
def sp_kd (t : Nat) : Nat := t % 16
def sp_pt (t : Nat) : Nat := t / 16
def sp_wd (t : Nat) : Nat := if t = 3 ∨ t = 4 then 2 else 1
def sp_sl (T : List Nat) : Nat := (T.map sp_wd).sum
/-- c is in the LINE of d (fuel 8 is enough: a SUPER is less) -/
def sp_in (sup : Nat → Nat) : Nat → Nat → Nat → Bool
  | 0, c, d => c == d
  | n + 1, c, d => c == d || (d != 0 && sp_in sup n c (sup d))
def sp_il (P : sp_P) (c d : Nat) : Bool := sp_in (pg_sup P) 8 c d
def sp_is (P : sp_P) (x y : Nat) : Bool := x == y || y == 0 || (sp_kd y == 7 && (x == 5 || (sp_kd x == 7 && (pg_face P (sp_pt y) || sp_il P (sp_pt y) (sp_pt x)))))
/-- the first in the LINE of c that is in that of d -/
def sp_jc (sup : Nat → Nat) : Nat → Nat → Nat → Nat
  | 0, c, _ => c
  | n + 1, c, d => if sp_in sup 8 c d = true then c else sp_jc sup n (sup c) d
def sp_op (t : Nat) : Bool := t == 5 || sp_kd t == 7
def sp_jn (P : sp_P) (x y : Nat) : Nat := if x = y then x else if sp_op x && sp_op y then (if x = 5 then y else if y = 5 then x else 16 * sp_jc (pg_sup P) 8 (sp_pt x) (sp_pt y) + 7) else 0
/-- s of the document -/
def sp_sm (t : Nat) : Bool := sp_kd t == 1 || sp_kd t == 2 || (decide (5 ≤ sp_kd t) && decide (sp_kd t ≤ 8))
def sp_rf (t : Nat) : Bool := decide (5 ≤ sp_kd t) && decide (sp_kd t ≤ 8)
def sp_len (o : Nat) : Nat := if o ≤ 20 then 1 else if o ≤ 30 then 2 else 3
/-- the OFFSET of a PLACE -/
def sp_off (P : sp_P) (p : Nat) : Nat := (((pg_cod P).take p).map fun q => sp_len q.1).sum
def sp_jmp (o : Nat) : Bool := decide (31 ≤ o) && decide (o ≤ 34)
def sp_end (o : Nat) : Bool := (decide (18 ≤ o) && decide (o ≤ 20)) || o == 31
/-- the PLACE of an OFFSET -/
def sp_at (P : sp_P) (k : Nat) : Option Nat := (List.range (pg_n P)).find? fun p => sp_off P p == k
/-- a FRAME: LOCALS (10), the STACK from its top on, whether THIS IS RAW -/
abbrev sp_F : Type := List Nat × List Nat × Bool
def sp_psh (t : Nat) (T : List Nat) : Option (List Nat) := if sp_sl T + sp_wd t ≤ 8 then some (t :: T) else none
def sp_tk (o : Nat) : Nat := match o with
  | 0 => 1
  | 1 => 4
  | 2 => 2
  | 3 => 3
  | _ => 7
def sp_ok (t o : Nat) : Bool := if sp_tk o = 7 then sp_rf t else t == sp_tk o
def sp_sto (L : List Nat) (a t : Nat) : List Nat :=
  let L := if 0 < a ∧ sp_wd (L.getD (a - 1) 0) = 2 then L.set (a - 1) 0 else L
  let L := L.set a t
  if sp_wd t = 2 then L.set (a + 1) 0 else L
def sp_rep (x y : Nat) (L : List Nat) : List Nat := L.map fun t => if t = x then y else t
def sp_sum (t : Nat) (T : List Nat) : Option (List Nat) := match T with
  | y :: x :: T => if y = t ∧ x = t then sp_psh t T else none
  | _ => none
def sp_swp (t u : Nat) (T : List Nat) : Option (List Nat) := match T with
  | x :: T => if x = t then sp_psh u T else none
  | _ => none
def sp_stk (P : sp_P) (o : Nat) (F : sp_F) : Option (List Nat) := match o with
  | 0 => some F.2.1
  | 6 => match F.2.1 with
    | x :: T => if sp_sm x then some T else none
    | _ => none
  | 7 => match F.2.1 with
    | x :: T => if sp_wd x = 2 then some T else match T with
      | y :: T => if sp_sm x && sp_sm y then some T else none
      | _ => none
    | _ => none
  | 8 => match F.2.1 with
    | x :: T => if sp_sm x then sp_psh x (x :: T) else none
    | _ => none
  | 9 => match F.2.1 with
    | x :: y :: T => if sp_sm x && sp_sm y then some (y :: x :: T) else none
    | _ => none
  | 10 => sp_sum 1 F.2.1
  | 11 => sp_sum 4 F.2.1
  | 12 => sp_sum 2 F.2.1
  | 13 => sp_sum 3 F.2.1
  | 14 => sp_swp 1 4 F.2.1
  | 15 => sp_swp 4 1 F.2.1
  | 16 => sp_swp 1 3 F.2.1
  | 17 => sp_swp 3 1 F.2.1
  | 18 => if pg_giv P || (pg_mode P == 2 && F.2.2) then none else some F.2.1
  | 19 => match F.2.1 with
    | x :: T => if pg_giv P && x == 1 then some T else none
    | _ => none
  | 20 => match F.2.1 with
    | x :: T => if sp_op x && sp_is P x 7 then some (x :: T) else none
    | _ => none
  | o => sp_psh o F.2.1
def sp_ini (P : sp_P) (a : Nat) (F : sp_F) : Option sp_F := match F.2.1 with
  | x :: T => if x = 6 then (if a = pg_own P ∨ (pg_own P ≠ 0 ∧ a = pg_sup P (pg_own P)) then some (sp_rep 6 (16 * pg_own P + 7) F.1, sp_rep 6 (16 * pg_own P + 7) T, false) else none)
    else if sp_kd x = 8 then (match sp_at P (sp_pt x) with
      | some p => if pg_op P p = 35 ∧ pg_a P p = a then some (sp_rep x (16 * a + 7) F.1, sp_rep x (16 * a + 7) T, F.2.2) else none
      | none => none) else none
  | _ => none
/-- what an INSTRUCTION leaves (behind RETURN and THROW it does not matter) -/
def sp_stp (P : sp_P) (p : Nat) (F : sp_F) : Option sp_F :=
  let o := pg_op P p
  let a := pg_a P p
  if o ≤ 20 then (sp_stk P o F).map fun T => (F.1, T, F.2.2)
  else if o ≤ 25 then (if sp_ok (F.1.getD a 0) (o - 21) then (sp_psh (F.1.getD a 0) F.2.1).map fun T => (F.1, T, F.2.2) else none)
  else if o ≤ 30 then (match F.2.1 with
    | x :: T => if sp_ok x (o - 26) then some (sp_sto F.1 a x, T, F.2.2) else none
    | _ => none)
  else if o = 31 then some F
  else if o = 32 then (match F.2.1 with
    | x :: T => if x = 1 then some (F.1, T, F.2.2) else none
    | _ => none)
  else if o = 33 then (match F.2.1 with
    | x :: T => if sp_op x then some (F.1, T, F.2.2) else none
    | _ => none)
  else if o = 34 then (match F.2.1 with
    | x :: y :: T => if sp_op x && sp_op y then some (F.1, T, F.2.2) else none
    | _ => none)
  else if o = 35 then (sp_psh (16 * sp_off P p + 8) F.2.1).map fun T => (F.1, T, F.2.2)
  else if o = 36 then sp_ini P a F
  else (match F.2.1 with
    | x :: T => if sp_op x && sp_is P x (16 * (if o = 39 then 0 else a) + 7) then (sp_psh (if o = 37 then 1 else 16 * (if o = 38 then pg_b P p else a) + 7) T).map fun T => (F.1, T, F.2.2) else none
    | _ => none)
/-- THE FIRST FRAME -/
def sp_spr : List Nat → List Nat
  | [] => []
  | t :: l => if sp_wd t = 2 then t :: 0 :: sp_spr l else t :: sp_spr l
def sp_hd (P : sp_P) : List Nat := if pg_mode P = 0 then [] else if pg_mode P = 2 then [6] else [16 * pg_own P + 7]
def sp_fst (P : sp_P) : sp_F := (((sp_hd P ++ sp_spr (pg_arg P)) ++ List.replicate 10 0).take 10, [], pg_mode P == 2)
