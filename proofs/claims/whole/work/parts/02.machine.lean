/-! THE ABSTRACT MACHINE: it runs a method's decoded code over a store of numbers; every object has a sort and an index, every reference is known by the layout. -/
abbrev zm_V : Type := Int32 ⊕ (Nat × Nat)
abbrev zm_L : Type := List (Option zm_V)
abbrev zm_M : Type := Nat → Nat → Nat → Int32
abbrev zm_C : Type := List (Nat × Jvm.ClassFile.Instr × Nat × List Nat)
def zm_up (M : zm_M) (s i k : Nat) (x : Int32) : zm_M := fun s' i' k' => if s' = s then if k' = k then if i' = i then x else M s' i' k' else M s' i' k' else M s' i' k'
def zm_ua (M : zm_M) (s i : Nat) (f : Nat → Int32) : zm_M := fun s' i' k' => if s' = s then if i' = i then f k' else M s' i' k' else M s' i' k'
/-- the layout: kind of a sort (0 object, 1 ints, 2 booleans, 3 references, 4 constant ints), class, length, reference in a field, element, how many, how many sorts, a constant's ints, kind of a field (0 int, 1 boolean, 2 fixed) -/
abbrev zm_Y : Type := (Nat → Nat) × (Nat → Nat) × (Nat → Nat) × (Nat → Nat → Nat → Option (Nat × Nat)) × (Nat → Nat → Nat → Nat × Nat) × (Nat → Nat) × Nat × (Nat → Nat → Int32) × (Nat → Nat → Nat)
def zy_k (Y : zm_Y) : Nat → Nat := Y.1
def zy_c (Y : zm_Y) : Nat → Nat := Y.2.1
def zy_n (Y : zm_Y) : Nat → Nat := Y.2.2.1
def zy_r (Y : zm_Y) : Nat → Nat → Nat → Option (Nat × Nat) := Y.2.2.2.1
def zy_e (Y : zm_Y) : Nat → Nat → Nat → Nat × Nat := Y.2.2.2.2.1
def zy_m (Y : zm_Y) : Nat → Nat := Y.2.2.2.2.2.1
def zy_s (Y : zm_Y) : Nat := Y.2.2.2.2.2.2.1
def zy_t (Y : zm_Y) : Nat → Nat → Int32 := Y.2.2.2.2.2.2.2.1
def zy_f (Y : zm_Y) : Nat → Nat → Nat := Y.2.2.2.2.2.2.2.2
/-- a callee: how many it takes, and what it does -/
abbrev zm_F : Type := Nat × ((List zm_V → zm_M → Option (Int32 × zm_M)) ⊕ ((List zm_V → zm_M → Option zm_M) ⊕ (List zm_V → zm_M → Option ((Nat × Nat) × zm_M))))
/-- a method's links: fields, constants, statics, callees (2 * entry for static ones, 2 * entry + 1 for others) -/
abbrev zm_X : Type := (Nat → Option (Nat × Nat)) × (Nat → Option Int32) × (Nat → Option (Nat × Nat)) × (Nat → Option zm_F)
def zm_li {T : Type} (lo : zm_L) (i : Nat) (k : Int32 → Option T) : Option T := match lo[i]? with
  | some (some (.inl x)) => k x
  | _ => none
def zm_la {T : Type} (lo : zm_L) (i : Nat) (k : Nat × Nat → Option T) : Option T := match lo[i]? with
  | some (some (.inr x)) => k x
  | _ => none
def zm_sl {T : Type} (lo : zm_L) (i : Nat) (v : zm_V) (k : zm_L → Option T) : Option T := match lo[i]? with
  | some _ => k (lo.set i (some v))
  | none => none
def zm_b2 {T : Type} (st : List zm_V) (k : Int32 → Int32 → List zm_V → Option T) : Option T := match st with
  | .inl y :: .inl x :: r => k x y r
  | _ => none
def zm_b1 {T : Type} (st : List zm_V) (k : Int32 → List zm_V → Option T) : Option T := match st with
  | .inl x :: r => k x r
  | _ => none
def zm_cm {T : Type} (c : Jvm.ClassFile.Cond) (x y : Int32) (a b : Option T) : Option T := match c with
  | .eq => if x = y then a else b
  | .ne => if x = y then b else a
  | .lt => if x < y then a else b
  | .ge => if x < y then b else a
  | .gt => if y < x then a else b
  | .le => if y < x then b else a
def zm_t0 {T : Type} (ts : List Nat) (k : Nat → Option T) : Option T := match ts with
  | t :: _ => k t
  | [] => none
def zm_sw {T : Type} (x : Int32) : Int → List Nat → Nat → (Nat → Option T) → Option T
  | _, [], d, k => k d
  | v, t :: ts, d, k => if x = Int32.ofInt v then k t else zm_sw x (v + 1) ts d k
def zm_iv {T : Type} (f : Option zm_F) (K : List zm_V → zm_M → Option T) (st : List zm_V) (M : zm_M) : Option T := match f with
  | some (n, f) => match Nat.ble n st.length && Nat.ble st.length (n + 8) with
    | true => match f with
      | .inl f => (f (st.take n).reverse M).bind fun q => K (.inl q.1 :: st.drop n) q.2
      | .inr (.inl f) => (f (st.take n).reverse M).bind fun q => K (st.drop n) q
      | .inr (.inr f) => (f (st.take n).reverse M).bind fun q => K (.inr q.1 :: st.drop n) q.2
    | false => none
  | none => none
def zm_gf {T : Type} (Y : zm_Y) (f : Option (Nat × Nat)) (r : Nat × Nat) (M : zm_M) (k : zm_V → Option T) : Option T := match f with
  | some (c, j) => match Nat.beq (zy_k Y r.1) 0 && Nat.beq (zy_c Y r.1) c with
    | true => match zy_r Y r.1 r.2 j with
      | none => k (.inl (M r.1 r.2 j))
      | some q => k (.inr q)
    | false => none
  | none => none
def zm_pf {T : Type} (Y : zm_Y) (f : Option (Nat × Nat)) (r : Nat × Nat) (x : Int32) (M : zm_M) (k : zm_M → Option T) : Option T := match f with
  | some (c, j) => match Nat.beq (zy_k Y r.1) 0 && Nat.beq (zy_c Y r.1) c with
    | true => match zy_f Y c j with
      | 0 => k (zm_up M r.1 r.2 j x)
      | 1 => if x = 0 ∨ x = 1 then k (zm_up M r.1 r.2 j x) else none
      | _ => none
    | false => none
  | none => none
/-- one instruction; K goes on, ret ends -/
def zm_ex {T : Type} (Y : zm_Y) (X : zm_X) (ret : Option zm_V → zm_M → Option T) (K : Nat → zm_L → List zm_V → zm_M → Option T) (nx : Nat) (ts : List Nat) (lo : zm_L) (st : List zm_V) (M : zm_M) (ins : Jvm.ClassFile.Instr) : Option T := match ins with
  | .iconst n => K nx lo (.inl (Int32.ofInt n) :: st) M
  | .bipush n => K nx lo (.inl (Int8.ofInt n).toInt32 :: st) M
  | .sipush n => K nx lo (.inl (Int16.ofInt n).toInt32 :: st) M
  | .ldc i => match X.2.1 i with
    | some v => K nx lo (.inl v :: st) M
    | none => none
  | .iload i => zm_li lo i fun v => K nx lo (.inl v :: st) M
  | .iload_n i => zm_li lo i fun v => K nx lo (.inl v :: st) M
  | .aload i => zm_la lo i fun v => K nx lo (.inr v :: st) M
  | .aload_n i => zm_la lo i fun v => K nx lo (.inr v :: st) M
  | .istore i => zm_b1 st fun x r => zm_sl lo i (.inl x) fun lo => K nx lo r M
  | .istore_n i => zm_b1 st fun x r => zm_sl lo i (.inl x) fun lo => K nx lo r M
  | .astore i => match st with
    | .inr x :: r => zm_sl lo i (.inr x) fun lo => K nx lo r M
    | _ => none
  | .astore_n i => match st with
    | .inr x :: r => zm_sl lo i (.inr x) fun lo => K nx lo r M
    | _ => none
  | .iinc i n => zm_li lo i fun x => zm_sl lo i (.inl (x + Int32.ofInt n)) fun lo => K nx lo st M
  | .iadd => zm_b2 st fun x y r => K nx lo (.inl (x + y) :: r) M
  | .isub => zm_b2 st fun x y r => K nx lo (.inl (x - y) :: r) M
  | .imul => zm_b2 st fun x y r => K nx lo (.inl (x * y) :: r) M
  | .iand => zm_b2 st fun x y r => K nx lo (.inl (x &&& y) :: r) M
  | .ior => zm_b2 st fun x y r => K nx lo (.inl (x ||| y) :: r) M
  | .ixor => zm_b2 st fun x y r => K nx lo (.inl (x ^^^ y) :: r) M
  | .ishl => zm_b2 st fun x y r => K nx lo (.inl (x <<< (y &&& 31)) :: r) M
  | .ishr => zm_b2 st fun x y r => K nx lo (.inl (x >>> (y &&& 31)) :: r) M
  | .iushr => zm_b2 st fun x y r => K nx lo (.inl (x.toUInt32 >>> (y.toUInt32 &&& Int32.toUInt32 31)).toInt32 :: r) M
  | .idiv => zm_b2 st fun x y r => if y = 0 then none else K nx lo (.inl (x / y) :: r) M
  | .irem => zm_b2 st fun x y r => if y = 0 then none else K nx lo (.inl (x - x / y * y) :: r) M
  | .ineg => zm_b1 st fun x r => K nx lo (.inl (-x) :: r) M
  | .i2b => zm_b1 st fun x r => K nx lo (.inl x.toInt8.toInt32 :: r) M
  | .dup => match st with
    | v :: r => K nx lo (v :: v :: r) M
    | _ => none
  | .pop => match st with
    | _ :: r => K nx lo r M
    | _ => none
  | .dup_x1 => match st with
    | a :: b :: r => K nx lo (a :: b :: a :: r) M
    | _ => none
  | .dup2 => match st with
    | a :: b :: r => K nx lo (a :: b :: a :: b :: r) M
    | _ => none
  | .goto _ => zm_t0 ts fun t => K t lo st M
  | .ifCond c _ => zm_b1 st fun x r => zm_t0 ts fun t => zm_cm c x 0 (K t lo r M) (K nx lo r M)
  | .if_icmp c _ => zm_b2 st fun x y r => zm_t0 ts fun t => zm_cm c x y (K t lo r M) (K nx lo r M)
  | .tableswitch _ v _ _ => zm_b1 st fun x r => match ts with
    | d :: ts => zm_sw x v ts d fun t => K t lo r M
    | [] => none
  | .getfield i => match st with
    | .inr q :: r => zm_gf Y (X.1 i) q M fun v => K nx lo (v :: r) M
    | _ => none
  | .putfield i => match st with
    | .inl x :: .inr q :: r => zm_pf Y (X.1 i) q x M fun M => K nx lo r M
    | _ => none
  | .getstatic i => match X.2.2.1 i with
    | some q => K nx lo (.inr q :: st) M
    | none => none
  | .arraylength => match st with
    | .inr q :: r => match zy_k Y q.1 with
      | 0 => none
      | _ => K nx lo (.inl (nI (zy_n Y q.1)) :: r) M
    | _ => none
  | .iaload => match st with
    | .inl i :: .inr q :: r => match zy_k Y q.1 with
      | 1 => if i < 0 ∨ zy_n Y q.1 ≤ i.toNatClampNeg then none else K nx lo (.inl (M q.1 q.2 i.toNatClampNeg) :: r) M
      | 4 => if i < 0 ∨ zy_n Y q.1 ≤ i.toNatClampNeg then none else K nx lo (.inl (zy_t Y q.1 i.toNatClampNeg) :: r) M
      | _ => none
    | _ => none
  | .baload => match st with
    | .inl i :: .inr q :: r => match zy_k Y q.1 with
      | 2 => if i < 0 ∨ zy_n Y q.1 ≤ i.toNatClampNeg then none else K nx lo (.inl (M q.1 q.2 i.toNatClampNeg) :: r) M
      | _ => none
    | _ => none
  | .aaload => match st with
    | .inl i :: .inr q :: r => match zy_k Y q.1 with
      | 3 => if i < 0 ∨ zy_n Y q.1 ≤ i.toNatClampNeg then none else K nx lo (.inr (zy_e Y q.1 q.2 i.toNatClampNeg) :: r) M
      | _ => none
    | _ => none
  | .iastore => match st with
    | .inl x :: .inl i :: .inr q :: r => match zy_k Y q.1 with
      | 1 => if i < 0 ∨ zy_n Y q.1 ≤ i.toNatClampNeg then none else K nx lo r (zm_up M q.1 q.2 i.toNatClampNeg x)
      | _ => none
    | _ => none
  | .bastore => match st with
    | .inl x :: .inl i :: .inr q :: r => match zy_k Y q.1 with
      | 2 => if i < 0 ∨ zy_n Y q.1 ≤ i.toNatClampNeg then none else K nx lo r (zm_up M q.1 q.2 i.toNatClampNeg (x &&& 1))
      | _ => none
    | _ => none
  | .invokevirtual i => zm_iv (X.2.2.2 (2 * i + 1)) (fun st M => K nx lo st M) st M
  | .invokestatic i => zm_iv (X.2.2.2 (2 * i)) (fun st M => K nx lo st M) st M
  | .ireturn => match st with
    | [.inl x] => ret (some (.inl x)) M
    | _ => none
  | .areturn => match st with
    | [.inr x] => ret (some (.inr x)) M
    | _ => none
  | .return_ => match st with
    | [] => ret none M
    | _ => none
  | _ => none
/-- from a place on, over the rest of the code; a way back goes to 'back' -/
def zm_go {T : Type} (Y : zm_Y) (X : zm_X) (ret : Option zm_V → zm_M → Option T) (back : Nat → zm_L → List zm_V → zm_M → Option T) : zm_C → Nat → zm_L → List zm_V → zm_M → Option T
  | [], _, _, _, _ => none
  | (q, ins, nx, ts) :: code, pc, lo, st, M => match Nat.beq q pc with
    | true => zm_ex Y X ret (fun pc' lo st M => match Nat.ble pc' q with
      | true => back pc' lo st M
      | false => zm_go Y X ret back code pc' lo st M) nx ts lo st M ins
    | false => zm_go Y X ret back code pc lo st M
/-- with at most n ways back -/
def zm_rn {T : Type} (Y : zm_Y) (X : zm_X) (ret : Option zm_V → zm_M → Option T) (code : zm_C) : Nat → Nat → zm_L → List zm_V → zm_M → Option T
  | 0, _, _, _, _ => none
  | n + 1, pc, lo, st, M => zm_go Y X ret (zm_rn Y X ret code n) code pc lo st M
