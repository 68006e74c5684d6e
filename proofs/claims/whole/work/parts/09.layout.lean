/-! the words of the tables that go with a call; the classes; the layout of the store (written by wip/whole/gen3.py) -/
def zt_Ts : List Cond := lw_tbl.filter zk_nw
theorem zt_ok : ∀ w ∈ zt_Ts, zk_nw w = true := fun w h => (List.mem_filter.mp h).2
theorem zt_m {w : Cond} (i : Nat) (h : lw_tbl[i]? = some w) (h2 : zk_nw w = true) : w ∈ zt_Ts := List.mem_filter.mpr ⟨List.mem_of_getElem? h, h2⟩
def zm_eb (cc : ByteArray) (q : Nat × Jvm.ClassFile.Instr × Nat × List Nat) : Bool := decide (decode cc q.1 = .ok (q.2.1, zm_ln q.1 q.2.1)) && (decide (q.2.2.1 = q.1 + zm_ln q.1 q.2.1) && zm_tg q.1 q.2.2.2 q.2.1)
theorem zm_eb_ok {cc : ByteArray} {code : zm_C} (h : code.all (zm_eb cc) = true) : ∀ q ∈ code, zm_en cc q := by
  intro q hq
  have h1 := List.all_eq_true.mp h q hq
  unfold zm_eb at h1
  rw [Bool.and_eq_true, Bool.and_eq_true] at h1
  exact ⟨of_decide_eq_true h1.1, of_decide_eq_true h1.2.1, h1.2.2⟩
def zn_at {α : Type} : List α → Nat → α → α
  | [], _, d => d
  | a :: _, 0, _ => a
  | _ :: L, n + 1, d => zn_at L n d
def rn_fa : String := "MapForge$Family"
def tn_fa : u_T := fun k => match k with
  | 0 => ("MapForge$Family", "above", "[I", true)
  | 1 => ("MapForge$Family", "face", "[Z", true)
  | _ => ("MapForge$Family", "line", "[I", true)
def ty_fa : Nat → FieldType := fun k => match k with
  | 0 => .array .int
  | 1 => .array .boolean
  | _ => .array .int
def rn_pr : String := "MapForge$Program"
def tn_pr : u_T := fun k => match k with
  | 0 => ("MapForge$Program", "own", "I", false)
  | 1 => ("MapForge$Program", "mode", "I", false)
  | 2 => ("MapForge$Program", "gives", "Z", false)
  | 3 => ("MapForge$Program", "arguments", "[I", true)
  | 4 => ("MapForge$Program", "argumentCount", "I", false)
  | 5 => ("MapForge$Program", "ops", "[I", true)
  | 6 => ("MapForge$Program", "as", "[I", true)
  | 7 => ("MapForge$Program", "bs", "[I", true)
  | 8 => ("MapForge$Program", "offsets", "[I", true)
  | 9 => ("MapForge$Program", "size", "I", false)
  | 10 => ("MapForge$Program", "from", "[I", true)
  | 11 => ("MapForge$Program", "to", "[I", true)
  | 12 => ("MapForge$Program", "at", "[I", true)
  | 13 => ("MapForge$Program", "caught", "[I", true)
  | _ => ("MapForge$Program", "handlers", "I", false)
def ty_pr : Nat → FieldType := fun k => match k with
  | 0 => .int
  | 1 => .int
  | 2 => .boolean
  | 3 => .array .int
  | 4 => .int
  | 5 => .array .int
  | 6 => .array .int
  | 7 => .array .int
  | 8 => .array .int
  | 9 => .int
  | 10 => .array .int
  | 11 => .array .int
  | 12 => .array .int
  | 13 => .array .int
  | _ => .int
def rn_by : String := "MapForge$Bytes"
def tn_by : u_T := fun k => match k with
  | 0 => ("MapForge$Bytes", "cells", "[I", true)
  | _ => ("MapForge$Bytes", "size", "I", false)
def ty_by : Nat → FieldType := fun k => match k with
  | 0 => .array .int
  | _ => .int
def rn_ma : String := "MapForge$Machine"
def tn_ma : u_T := fun k => match k with
  | 0 => ("MapForge$Machine", "family", "LMapForge$Family;", true)
  | _ => ("MapForge$Machine", "program", "LMapForge$Program;", true)
def ty_ma : Nat → FieldType := fun k => match k with
  | 0 => .object "MapForge$Family"
  | _ => .object "MapForge$Program"
def rn_fr : String := "MapForge$Frame"
def tn_fr : u_T := fun k => match k with
  | 0 => ("MapForge$Frame", "locals", "[I", true)
  | 1 => ("MapForge$Frame", "stack", "[I", true)
  | 2 => ("MapForge$Frame", "depth", "I", false)
  | 3 => ("MapForge$Frame", "slots", "I", false)
  | _ => ("MapForge$Frame", "raw", "Z", false)
def ty_fr : Nat → FieldType := fun k => match k with
  | 0 => .array .int
  | 1 => .array .int
  | 2 => .int
  | 3 => .int
  | _ => .boolean
def rn_fl : String := "MapForge$Flow"
def tn_fl : u_T := fun k => match k with
  | 0 => ("MapForge$Flow", "family", "LMapForge$Family;", true)
  | 1 => ("MapForge$Flow", "program", "LMapForge$Program;", true)
  | 2 => ("MapForge$Flow", "machine", "LMapForge$Machine;", true)
  | 3 => ("MapForge$Flow", "frames", "[LMapForge$Frame;", true)
  | 4 => ("MapForge$Flow", "rowHere", "[Z", true)
  | 5 => ("MapForge$Flow", "reached", "[Z", true)
  | 6 => ("MapForge$Flow", "waiting", "[Z", true)
  | 7 => ("MapForge$Flow", "work", "LMapForge$Frame;", true)
  | 8 => ("MapForge$Flow", "known", "Z", false)
  | _ => ("MapForge$Flow", "right", "Z", false)
def ty_fl : Nat → FieldType := fun k => match k with
  | 0 => .object "MapForge$Family"
  | 1 => .object "MapForge$Program"
  | 2 => .object "MapForge$Machine"
  | 3 => .array (.object "MapForge$Frame")
  | 4 => .array .boolean
  | 5 => .array .boolean
  | 6 => .array .boolean
  | 7 => .object "MapForge$Frame"
  | 8 => .boolean
  | _ => .boolean
def rn_tl : String := "MapForge$TypeList"
def tn_tl : u_T := fun k => match k with
  | 0 => ("MapForge$TypeList", "types", "[I", true)
  | 1 => ("MapForge$TypeList", "size", "I", false)
  | _ => ("MapForge$TypeList", "width", "I", false)
def ty_tl : Nat → FieldType := fun k => match k with
  | 0 => .array .int
  | 1 => .int
  | _ => .int
def rn_wr : String := "MapForge$Writer"
def tn_wr : u_T := fun k => match k with
  | 0 => ("MapForge$Writer", "program", "LMapForge$Program;", true)
  | 1 => ("MapForge$Writer", "flow", "LMapForge$Flow;", true)
  | 2 => ("MapForge$Writer", "first", "LMapForge$Frame;", true)
  | 3 => ("MapForge$Writer", "before", "LMapForge$TypeList;", true)
  | 4 => ("MapForge$Writer", "list", "LMapForge$TypeList;", true)
  | _ => ("MapForge$Writer", "written", "LMapForge$Bytes;", true)
def ty_wr : Nat → FieldType := fun k => match k with
  | 0 => .object "MapForge$Program"
  | 1 => .object "MapForge$Flow"
  | 2 => .object "MapForge$Frame"
  | 3 => .object "MapForge$TypeList"
  | 4 => .object "MapForge$TypeList"
  | _ => .object "MapForge$Bytes"
def rn_re : String := "MapForge$Reader"
def tn_re : u_T := fun k => match k with
  | 0 => ("MapForge$Reader", "program", "LMapForge$Program;", true)
  | 1 => ("MapForge$Reader", "bytes", "LMapForge$Bytes;", true)
  | 2 => ("MapForge$Reader", "first", "LMapForge$Frame;", true)
  | 3 => ("MapForge$Reader", "list", "LMapForge$TypeList;", true)
  | 4 => ("MapForge$Reader", "frames", "[LMapForge$Frame;", true)
  | 5 => ("MapForge$Reader", "offsets", "[I", true)
  | 6 => ("MapForge$Reader", "firstBytes", "[I", true)
  | 7 => ("MapForge$Reader", "rowAt", "[I", true)
  | 8 => ("MapForge$Reader", "rows", "I", false)
  | 9 => ("MapForge$Reader", "known", "Z", false)
  | 10 => ("MapForge$Reader", "sound", "Z", false)
  | _ => ("MapForge$Reader", "next", "I", false)
def ty_re : Nat → FieldType := fun k => match k with
  | 0 => .object "MapForge$Program"
  | 1 => .object "MapForge$Bytes"
  | 2 => .object "MapForge$Frame"
  | 3 => .object "MapForge$TypeList"
  | 4 => .array (.object "MapForge$Frame")
  | 5 => .array .int
  | 6 => .array .int
  | 7 => .array .int
  | 8 => .int
  | 9 => .boolean
  | 10 => .boolean
  | _ => .int
def rn_ck : String := "MapForge$Checker"
def tn_ck : u_T := fun k => match k with
  | 0 => ("MapForge$Checker", "family", "LMapForge$Family;", true)
  | 1 => ("MapForge$Checker", "program", "LMapForge$Program;", true)
  | 2 => ("MapForge$Checker", "machine", "LMapForge$Machine;", true)
  | 3 => ("MapForge$Checker", "reader", "LMapForge$Reader;", true)
  | 4 => ("MapForge$Checker", "now", "LMapForge$Frame;", true)
  | _ => ("MapForge$Checker", "thrown", "LMapForge$Frame;", true)
def ty_ck : Nat → FieldType := fun k => match k with
  | 0 => .object "MapForge$Family"
  | 1 => .object "MapForge$Program"
  | 2 => .object "MapForge$Machine"
  | 3 => .object "MapForge$Reader"
  | 4 => .object "MapForge$Frame"
  | _ => .object "MapForge$Frame"
def rn_mf : String := "MapForge"
def tn_mf : u_T := fun k => match k with
  | 0 => ("MapForge", "family", "LMapForge$Family;", true)
  | 1 => ("MapForge", "program", "LMapForge$Program;", true)
  | 2 => ("MapForge", "bytes", "LMapForge$Bytes;", true)
  | 3 => ("MapForge", "flow", "LMapForge$Flow;", true)
  | 4 => ("MapForge", "writer", "LMapForge$Writer;", true)
  | 5 => ("MapForge", "reader", "LMapForge$Reader;", true)
  | _ => ("MapForge", "checker", "LMapForge$Checker;", true)
def ty_mf : Nat → FieldType := fun k => match k with
  | 0 => .object "MapForge$Family"
  | 1 => .object "MapForge$Program"
  | 2 => .object "MapForge$Bytes"
  | 3 => .object "MapForge$Flow"
  | 4 => .object "MapForge$Writer"
  | 5 => .object "MapForge$Reader"
  | _ => .object "MapForge$Checker"
def rn_mo : String := "MapForgeModel"
def tn_mo : u_T := fun k => match k with
  | 0 => ("MapForgeModel", "sup", "[I", true)
  | 1 => ("MapForgeModel", "face", "[Z", true)
  | 2 => ("MapForgeModel", "own", "I", false)
  | 3 => ("MapForgeModel", "mode", "I", false)
  | 4 => ("MapForgeModel", "arguments", "I", false)
  | 5 => ("MapForgeModel", "many", "I", false)
  | 6 => ("MapForgeModel", "handlers", "I", false)
  | 7 => ("MapForgeModel", "bytes", "I", false)
  | 8 => ("MapForgeModel", "gives", "Z", false)
  | 9 => ("MapForgeModel", "argument", "[I", true)
  | 10 => ("MapForgeModel", "op", "[I", true)
  | 11 => ("MapForgeModel", "one", "[I", true)
  | 12 => ("MapForgeModel", "two", "[I", true)
  | 13 => ("MapForgeModel", "hFrom", "[I", true)
  | 14 => ("MapForgeModel", "hTo", "[I", true)
  | 15 => ("MapForgeModel", "hAt", "[I", true)
  | 16 => ("MapForgeModel", "hClass", "[I", true)
  | 17 => ("MapForgeModel", "map", "[I", true)
  | 18 => ("MapForgeModel", "local", "[I", true)
  | 19 => ("MapForgeModel", "stack", "[I", true)
  | 20 => ("MapForgeModel", "depth", "I", false)
  | 21 => ("MapForgeModel", "raw", "Z", false)
  | 22 => ("MapForgeModel", "come", "[Z", true)
  | 23 => ("MapForgeModel", "isRaw", "[Z", true)
  | 24 => ("MapForgeModel", "deep", "[I", true)
  | 25 => ("MapForgeModel", "fLocal", "[I", true)
  | 26 => ("MapForgeModel", "fStack", "[I", true)
  | 27 => ("MapForgeModel", "right", "Z", false)
  | 28 => ("MapForgeModel", "changed", "Z", false)
  | 29 => ("MapForgeModel", "rowOffset", "[I", true)
  | 30 => ("MapForgeModel", "rowByte", "[I", true)
  | 31 => ("MapForgeModel", "rowDeep", "[I", true)
  | 32 => ("MapForgeModel", "rowLocal", "[I", true)
  | 33 => ("MapForgeModel", "rowStack", "[I", true)
  | 34 => ("MapForgeModel", "rows", "I", false)
  | 35 => ("MapForgeModel", "list", "[I", true)
  | 36 => ("MapForgeModel", "before", "[I", true)
  | 37 => ("MapForgeModel", "listed", "I", false)
  | 38 => ("MapForgeModel", "listedBefore", "I", false)
  | 39 => ("MapForgeModel", "made", "[I", true)
  | 40 => ("MapForgeModel", "length", "I", false)
  | 41 => ("MapForgeModel", "place", "I", false)
  | _ => ("MapForgeModel", "broken", "Z", false)
def ty_mo : Nat → FieldType := fun k => match k with
  | 0 => .array .int
  | 1 => .array .boolean
  | 2 => .int
  | 3 => .int
  | 4 => .int
  | 5 => .int
  | 6 => .int
  | 7 => .int
  | 8 => .boolean
  | 9 => .array .int
  | 10 => .array .int
  | 11 => .array .int
  | 12 => .array .int
  | 13 => .array .int
  | 14 => .array .int
  | 15 => .array .int
  | 16 => .array .int
  | 17 => .array .int
  | 18 => .array .int
  | 19 => .array .int
  | 20 => .int
  | 21 => .boolean
  | 22 => .array .boolean
  | 23 => .array .boolean
  | 24 => .array .int
  | 25 => .array .int
  | 26 => .array .int
  | 27 => .boolean
  | 28 => .boolean
  | 29 => .array .int
  | 30 => .array .int
  | 31 => .array .int
  | 32 => .array .int
  | 33 => .array .int
  | 34 => .int
  | 35 => .array .int
  | 36 => .array .int
  | 37 => .int
  | 38 => .int
  | 39 => .array .int
  | 40 => .int
  | 41 => .int
  | _ => .boolean
def zt_cl : List vw_C := [(rn_fa, tn_fa, 3), (rn_pr, tn_pr, 15), (rn_by, tn_by, 2), (rn_ma, tn_ma, 2), (rn_fr, tn_fr, 5), (rn_fl, tn_fl, 10), (rn_tl, tn_tl, 3), (rn_wr, tn_wr, 6), (rn_re, tn_re, 12), (rn_ck, tn_ck, 6), (rn_mf, tn_mf, 7), (rn_mo, tn_mo, 43)]
def ly_k : List Nat := [0, 0, 1, 2, 1, 0, 1, 1, 1, 1, 1, 1, 1, 1, 1, 0, 1, 0, 0, 3, 2, 2, 2, 0, 1, 1, 0, 0, 1, 0, 3, 1, 1, 1, 0, 0, 1, 2, 1, 1, 1, 1, 1, 1, 1, 1, 1, 1, 1, 2, 2, 1, 1, 1, 1, 1, 1, 1, 1, 1, 1, 1, 4]
def ly_c : List Nat := [10, 0, 99, 99, 99, 1, 99, 99, 99, 99, 99, 99, 99, 99, 99, 2, 99, 3, 5, 99, 99, 99, 99, 4, 99, 99, 7, 6, 99, 8, 99, 99, 99, 99, 9, 11, 99, 99, 99, 99, 99, 99, 99, 99, 99, 99, 99, 99, 99, 99, 99, 99, 99, 99, 99, 99, 99, 99, 99, 99, 99, 99]
def ly_n : List Nat := [7, 3, 8, 8, 8, 15, 4, 50, 50, 50, 51, 4, 4, 4, 4, 2, 400, 2, 10, 50, 50, 50, 50, 5, 10, 8, 6, 3, 10, 12, 50, 50, 50, 50, 6, 43, 8, 8, 4, 50, 50, 50, 4, 4, 4, 4, 400, 10, 9, 50, 50, 50, 500, 400, 400, 400, 400, 4000, 3200, 12, 12, 2500, 5]
def ly_m : List Nat := [1, 1, 1, 1, 1, 1, 1, 1, 1, 1, 1, 1, 1, 1, 1, 2, 2, 1, 1, 1, 1, 1, 1, 105, 105, 105, 1, 3, 3, 1, 1, 1, 1, 1, 1, 1, 1, 1, 1, 1, 1, 1, 1, 1, 1, 1, 1, 1, 1, 1, 1, 1, 1, 1, 1, 1, 1, 1, 1, 1, 1, 1]
def ly_r : List (List (Option (Nat × (Nat → Nat)))) := [[some (1, fun _ => 0), some (5, fun _ => 0), some (15, fun _ => 0), some (18, fun _ => 0), some (26, fun _ => 0), some (29, fun _ => 0), some (34, fun _ => 0)],
  [some (2, fun _ => 0), some (3, fun _ => 0), some (4, fun _ => 0)],
  [],
  [],
  [],
  [none, none, none, some (6, fun _ => 0), none, some (7, fun _ => 0), some (8, fun _ => 0), some (9, fun _ => 0), some (10, fun _ => 0), none, some (11, fun _ => 0), some (12, fun _ => 0), some (13, fun _ => 0), some (14, fun _ => 0), none],
  [],
  [],
  [],
  [],
  [],
  [],
  [],
  [],
  [],
  [some (16, fun i => i), none],
  [],
  [some (1, fun _ => 0), some (5, fun _ => 0)],
  [some (1, fun _ => 0), some (5, fun _ => 0), some (17, fun _ => 0), some (19, fun _ => 0), some (20, fun _ => 0), some (21, fun _ => 0), some (22, fun _ => 0), some (23, fun _ => 100), none, none],
  [],
  [],
  [],
  [],
  [some (24, fun i => i), some (25, fun i => i), none, none, none],
  [],
  [],
  [some (5, fun _ => 0), some (18, fun _ => 0), some (23, fun _ => 101), some (27, fun _ => 0), some (27, fun _ => 1), some (15, fun _ => 1)],
  [some (28, fun i => i), none, none],
  [],
  [some (5, fun _ => 0), some (15, fun _ => 0), some (23, fun _ => 102), some (27, fun _ => 2), some (30, fun _ => 0), some (31, fun _ => 0), some (32, fun _ => 0), some (33, fun _ => 0), none, none, none, none],
  [],
  [],
  [],
  [],
  [some (1, fun _ => 0), some (5, fun _ => 0), some (17, fun _ => 0), some (29, fun _ => 0), some (23, fun _ => 103), some (23, fun _ => 104)],
  [some (36, fun _ => 0), some (37, fun _ => 0), none, none, none, none, none, none, none, some (38, fun _ => 0), some (39, fun _ => 0), some (40, fun _ => 0), some (41, fun _ => 0), some (42, fun _ => 0), some (43, fun _ => 0), some (44, fun _ => 0), some (45, fun _ => 0), some (46, fun _ => 0), some (47, fun _ => 0), some (48, fun _ => 0), none, none, some (49, fun _ => 0), some (50, fun _ => 0), some (51, fun _ => 0), some (52, fun _ => 0), some (53, fun _ => 0), none, none, some (54, fun _ => 0), some (55, fun _ => 0), some (56, fun _ => 0), some (57, fun _ => 0), some (58, fun _ => 0), none, some (59, fun _ => 0), some (60, fun _ => 0), none, none, some (61, fun _ => 0), none, none, none],
  [],
  [],
  [],
  [],
  [],
  [],
  [],
  [],
  [],
  [],
  [],
  [],
  [],
  [],
  [],
  [],
  [],
  [],
  [],
  [],
  [],
  [],
  [],
  [],
  [],
  []]
def ly_f : List (List Nat) := [[2, 2, 2], [0, 0, 1, 2, 0, 2, 2, 2, 2, 0, 2, 2, 2, 2, 0], [2, 0], [2, 2], [2, 2, 0, 0, 1], [2, 2, 2, 2, 2, 2, 2, 2, 1, 1], [2, 0, 0], [2, 2, 2, 2, 2, 2], [2, 2, 2, 2, 2, 2, 2, 2, 0, 1, 1, 0], [2, 2, 2, 2, 2, 2], [2, 2, 2, 2, 2, 2, 2], [2, 2, 0, 0, 0, 0, 0, 0, 1, 2, 2, 2, 2, 2, 2, 2, 2, 2, 2, 2, 0, 1, 2, 2, 2, 2, 2, 1, 1, 2, 2, 2, 2, 2, 0, 2, 2, 0, 0, 2, 0, 0, 1]]
def ly_e : Nat → Nat → Nat → Nat × Nat := fun s _ j => match Nat.beq s 19 with
  | true => (23, j)
  | false => (23, 50 + j)
def ly_t : List Int32 := [1, 4, 2, 3, 7]
/-- the script is the constant of sort 63 -/
def zt_Yx (len : Nat) (xs : Nat → Int32) : zm_Y := (fun s => zn_at ly_k s 9, fun s => zn_at ly_c s 99, fun s => match Nat.beq s 63 with
  | true => len
  | false => zn_at ly_n s 0, fun s i k => match zn_at (zn_at ly_r s []) k none with
  | none => none
  | some (t, f) => some (t, f i), ly_e, fun s => zn_at ly_m s 0, 62, fun s j => match Nat.beq s 63 with
  | true => xs j
  | false => zn_at ly_t j 0, fun c k => zn_at (zn_at ly_f c []) k 2)
def zt_Y : zm_Y := zt_Yx 0 (fun _ => 0)
def zt_Zs : zk_Zs := [("MapForge", "KINDS", "[I", (62, 0))]
