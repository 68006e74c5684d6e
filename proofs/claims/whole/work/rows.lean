section
/-! THE ABSTRACT MACHINE: it runs a method's decoded code over a store of numbers; every object has a sort and an index, every reference is known by the layout. -/
abbrev zm_V : Type := Int32 ⊕ (Nat × Nat)
abbrev zm_L : Type := List (Option zm_V)
abbrev zm_M : Type := Nat → Nat → Nat → Int32
abbrev zm_C : Type := List (Nat × Jvm.ClassFile.Instr × Nat × List Nat)
def zm_up (M : zm_M) (s i k : Nat) (x : Int32) : zm_M := fun s' i' k' => if s' = s ∧ i' = i ∧ k' = k then x else M s' i' k'
def zm_ua (M : zm_M) (s i : Nat) (f : Nat → Int32) : zm_M := fun s' i' k' => if s' = s ∧ i' = i then f k' else M s' i' k'
/-- the layout: kind of a sort (0 object, 1 ints, 2 booleans, 3 references, 4 constant ints), class, length, reference in a field, element, how many, how many sorts, a constant's ints, kind of a field (0 int, 1 boolean, 2 fixed) -/
abbrev zm_Y : Type := (Nat → Nat) × (Nat → Nat) × (Nat → Nat) × (Nat → Nat → Nat → Option (Nat × Nat)) × (Nat → Nat → Nat → Nat × Nat) × (Nat → Nat) × Nat × (Nat → Nat → Int32) × (Nat → Nat → Nat)
def zy_k (Y : zm_Y) : Nat → Nat := Y.1
def zy_c (Y : zm_Y) : Nat → Nat := Y.2.1
def zy_n (Y : zm_Y) : Nat → Nat := Y.2.2.1
def zy_r (Y : zm_Y) : Nat → Nat → Nat → Option (Nat × Nat) := Y.2.2.2.1
def zy_e (Y : zm_Y) : Nat → Nat → Nat → Nat × Nat := Y.2.2.2.2.1
def zy_m (Y : zm_Y) : Nat → Nat := Y.2.2.2.2.2.1
def zy_s (Y : zm_Y) : Nat := Y.2.2.2.2.2.2.1
def zy_t (Y : zm_Y) : Nat → Nat → Int32 := Y.2.2.2.2.2.2.2.1
def zy_f (Y : zm_Y) : Nat → Nat → Nat := Y.2.2.2.2.2.2.2.2
/-- a callee: how many it takes, and what it does -/
abbrev zm_F : Type := Nat × ((List zm_V → zm_M → Option (Int32 × zm_M)) ⊕ ((List zm_V → zm_M → Option zm_M) ⊕ (List zm_V → zm_M → Option ((Nat × Nat) × zm_M))))
/-- a method's links: fields, constants, statics, callees -/
abbrev zm_X : Type := (Nat → Option (Nat × Nat)) × (Nat → Option Int32) × (Nat → Option (Nat × Nat)) × (Nat → Option zm_F)
def zm_li {T : Type} (lo : zm_L) (i : Nat) (k : Int32 → Option T) : Option T := match lo[i]? with
  | some (some (.inl x)) => k x
  | _ => none
def zm_la {T : Type} (lo : zm_L) (i : Nat) (k : Nat × Nat → Option T) : Option T := match lo[i]? with
  | some (some (.inr x)) => k x
  | _ => none
def zm_sl {T : Type} (lo : zm_L) (i : Nat) (v : zm_V) (k : zm_L → Option T) : Option T := match lo[i]? with
  | some _ => k (lo.set i (some v))
  | none => none
def zm_b2 {T : Type} (st : List zm_V) (k : Int32 → Int32 → List zm_V → Option T) : Option T := match st with
  | .inl y :: .inl x :: r => k x y r
  | _ => none
def zm_b1 {T : Type} (st : List zm_V) (k : Int32 → List zm_V → Option T) : Option T := match st with
  | .inl x :: r => k x r
  | _ => none
def zm_cm {T : Type} (c : Jvm.ClassFile.Cond) (x y : Int32) (a b : Option T) : Option T := match c with
  | .eq => if x = y then a else b
  | .ne => if x = y then b else a
  | .lt => if x < y then a else b
  | .ge => if x < y then b else a
  | .gt => if y < x then a else b
  | .le => if y < x then b else a
def zm_t0 {T : Type} (ts : List Nat) (k : Nat → Option T) : Option T := match ts with
  | t :: _ => k t
  | [] => none
def zm_sw {T : Type} (x : Int32) : Int → List Nat → Nat → (Nat → Option T) → Option T
  | _, [], d, k => k d
  | v, t :: ts, d, k => if x = Int32.ofInt v then k t else zm_sw x (v + 1) ts d k
def zm_iv {T : Type} (f : Option zm_F) (K : List zm_V → zm_M → Option T) (st : List zm_V) (M : zm_M) : Option T := match f with
  | some (n, f) => match Nat.ble n st.length && Nat.ble st.length (n + 8) with
    | true => match f with
      | .inl f => (f (st.take n).reverse M).bind fun q => K (.inl q.1 :: st.drop n) q.2
      | .inr (.inl f) => (f (st.take n).reverse M).bind fun q => K (st.drop n) q
      | .inr (.inr f) => (f (st.take n).reverse M).bind fun q => K (.inr q.1 :: st.drop n) q.2
    | false => none
  | none => none
def zm_gf {T : Type} (Y : zm_Y) (f : Option (Nat × Nat)) (r : Nat × Nat) (M : zm_M) (k : zm_V → Option T) : Option T := match f with
  | some (c, j) => match Nat.beq (zy_k Y r.1) 0 && Nat.beq (zy_c Y r.1) c with
    | true => match zy_r Y r.1 r.2 j with
      | none => k (.inl (M r.1 r.2 j))
      | some q => k (.inr q)
    | false => none
  | none => none
def zm_pf {T : Type} (Y : zm_Y) (f : Option (Nat × Nat)) (r : Nat × Nat) (x : Int32) (M : zm_M) (k : zm_M → Option T) : Option T := match f with
  | some (c, j) => match Nat.beq (zy_k Y r.1) 0 && Nat.beq (zy_c Y r.1) c with
    | true => match zy_f Y c j with
      | 0 => k (zm_up M r.1 r.2 j x)
      | 1 => if x = 0 ∨ x = 1 then k (zm_up M r.1 r.2 j x) else none
      | _ => none
    | false => none
  | none => none
/-- one instruction; K goes on, ret ends -/
def zm_ex {T : Type} (Y : zm_Y) (X : zm_X) (ret : Option zm_V → zm_M → Option T) (K : Nat → zm_L → List zm_V → zm_M → Option T) (nx : Nat) (ts : List Nat) (lo : zm_L) (st : List zm_V) (M : zm_M) (ins : Jvm.ClassFile.Instr) : Option T := match ins with
  | .iconst n => K nx lo (.inl (Int32.ofInt n) :: st) M
  | .bipush n => K nx lo (.inl (Int8.ofInt n).toInt32 :: st) M
  | .sipush n => K nx lo (.inl (Int16.ofInt n).toInt32 :: st) M
  | .ldc i => match X.2.1 i with
    | some v => K nx lo (.inl v :: st) M
    | none => none
  | .iload i => zm_li lo i fun v => K nx lo (.inl v :: st) M
  | .iload_n i => zm_li lo i fun v => K nx lo (.inl v :: st) M
  | .aload i => zm_la lo i fun v => K nx lo (.inr v :: st) M
  | .aload_n i => zm_la lo i fun v => K nx lo (.inr v :: st) M
  | .istore i => zm_b1 st fun x r => zm_sl lo i (.inl x) fun lo => K nx lo r M
  | .istore_n i => zm_b1 st fun x r => zm_sl lo i (.inl x) fun lo => K nx lo r M
  | .astore i => match st with
    | .inr x :: r => zm_sl lo i (.inr x) fun lo => K nx lo r M
    | _ => none
  | .astore_n i => match st with
    | .inr x :: r => zm_sl lo i (.inr x) fun lo => K nx lo r M
    | _ => none
  | .iinc i n => zm_li lo i fun x => zm_sl lo i (.inl (x + Int32.ofInt n)) fun lo => K nx lo st M
  | .iadd => zm_b2 st fun x y r => K nx lo (.inl (x + y) :: r) M
  | .isub => zm_b2 st fun x y r => K nx lo (.inl (x - y) :: r) M
  | .imul => zm_b2 st fun x y r => K nx lo (.inl (x * y) :: r) M
  | .iand => zm_b2 st fun x y r => K nx lo (.inl (x &&& y) :: r) M
  | .ior => zm_b2 st fun x y r => K nx lo (.inl (x ||| y) :: r) M
  | .ixor => zm_b2 st fun x y r => K nx lo (.inl (x ^^^ y) :: r) M
  | .ishl => zm_b2 st fun x y r => K nx lo (.inl (x <<< (y &&& 31)) :: r) M
  | .ishr => zm_b2 st fun x y r => K nx lo (.inl (x >>> (y &&& 31)) :: r) M
  | .iushr => zm_b2 st fun x y r => K nx lo (.inl (x.toUInt32 >>> (y.toUInt32 &&& Int32.toUInt32 31)).toInt32 :: r) M
  | .idiv => zm_b2 st fun x y r => if y = 0 then none else K nx lo (.inl (x / y) :: r) M
  | .irem => zm_b2 st fun x y r => if y = 0 then none else K nx lo (.inl (x - x / y * y) :: r) M
  | .ineg => zm_b1 st fun x r => K nx lo (.inl (-x) :: r) M
  | .i2b => zm_b1 st fun x r => K nx lo (.inl x.toInt8.toInt32 :: r) M
  | .dup => match st with
    | v :: r => K nx lo (v :: v :: r) M
    | _ => none
  | .pop => match st with
    | _ :: r => K nx lo r M
    | _ => none
  | .dup_x1 => match st with
    | a :: b :: r => K nx lo (a :: b :: a :: r) M
    | _ => none
  | .dup2 => match st with
    | a :: b :: r => K nx lo (a :: b :: a :: b :: r) M
    | _ => none
  | .goto _ => zm_t0 ts fun t => K t lo st M
  | .ifCond c _ => zm_b1 st fun x r => zm_t0 ts fun t => zm_cm c x 0 (K t lo r M) (K nx lo r M)
  | .if_icmp c _ => zm_b2 st fun x y r => zm_t0 ts fun t => zm_cm c x y (K t lo r M) (K nx lo r M)
  | .tableswitch _ v _ _ => zm_b1 st fun x r => match ts with
    | d :: ts => zm_sw x v ts d fun t => K t lo r M
    | [] => none
  | .getfield i => match st with
    | .inr q :: r => zm_gf Y (X.1 i) q M fun v => K nx lo (v :: r) M
    | _ => none
  | .putfield i => match st with
    | .inl x :: .inr q :: r => zm_pf Y (X.1 i) q x M fun M => K nx lo r M
    | _ => none
  | .getstatic i => match X.2.2.1 i with
    | some q => K nx lo (.inr q :: st) M
    | none => none
  | .arraylength => match st with
    | .inr q :: r => match zy_k Y q.1 with
      | 0 => none
      | _ => K nx lo (.inl (nI (zy_n Y q.1)) :: r) M
    | _ => none
  | .iaload => match st with
    | .inl i :: .inr q :: r => match zy_k Y q.1 with
      | 1 => if i < 0 ∨ zy_n Y q.1 ≤ i.toNatClampNeg then none else K nx lo (.inl (M q.1 q.2 i.toNatClampNeg) :: r) M
      | 4 => if i < 0 ∨ zy_n Y q.1 ≤ i.toNatClampNeg then none else K nx lo (.inl (zy_t Y q.1 i.toNatClampNeg) :: r) M
      | _ => none
    | _ => none
  | .baload => match st with
    | .inl i :: .inr q :: r => match zy_k Y q.1 with
      | 2 => if i < 0 ∨ zy_n Y q.1 ≤ i.toNatClampNeg then none else K nx lo (.inl (M q.1 q.2 i.toNatClampNeg) :: r) M
      | _ => none
    | _ => none
  | .aaload => match st with
    | .inl i :: .inr q :: r => match zy_k Y q.1 with
      | 3 => if i < 0 ∨ zy_n Y q.1 ≤ i.toNatClampNeg then none else K nx lo (.inr (zy_e Y q.1 q.2 i.toNatClampNeg) :: r) M
      | _ => none
    | _ => none
  | .iastore => match st with
    | .inl x :: .inl i :: .inr q :: r => match zy_k Y q.1 with
      | 1 => if i < 0 ∨ zy_n Y q.1 ≤ i.toNatClampNeg then none else K nx lo r (zm_up M q.1 q.2 i.toNatClampNeg x)
      | _ => none
    | _ => none
  | .bastore => match st with
    | .inl x :: .inl i :: .inr q :: r => match zy_k Y q.1 with
      | 2 => if i < 0 ∨ zy_n Y q.1 ≤ i.toNatClampNeg then none else K nx lo r (zm_up M q.1 q.2 i.toNatClampNeg (x &&& 1))
      | _ => none
    | _ => none
  | .invokevirtual i => zm_iv (X.2.2.2 i) (fun st M => K nx lo st M) st M
  | .invokestatic i => zm_iv (X.2.2.2 i) (fun st M => K nx lo st M) st M
  | .ireturn => match st with
    | [.inl x] => ret (some (.inl x)) M
    | _ => none
  | .areturn => match st with
    | [.inr x] => ret (some (.inr x)) M
    | _ => none
  | .return_ => match st with
    | [] => ret none M
    | _ => none
  | _ => none
/-- from a place on, over the rest of the code; a way back goes to 'back' -/
def zm_go {T : Type} (Y : zm_Y) (X : zm_X) (ret : Option zm_V → zm_M → Option T) (back : Nat → zm_L → List zm_V → zm_M → Option T) : zm_C → Nat → zm_L → List zm_V → zm_M → Option T
  | [], _, _, _, _ => none
  | (q, ins, nx, ts) :: code, pc, lo, st, M => match Nat.beq q pc with
    | true => zm_ex Y X ret (fun pc' lo st M => match Nat.ble pc' q with
      | true => back pc' lo st M
      | false => zm_go Y X ret back code pc' lo st M) nx ts lo st M ins
    | false => zm_go Y X ret back code pc lo st M
/-- with at most n ways back -/
def zm_rn {T : Type} (Y : zm_Y) (X : zm_X) (ret : Option zm_V → zm_M → Option T) (code : zm_C) : Nat → Nat → zm_L → List zm_V → zm_M → Option T
  | 0, _, _, _, _ => none
  | n + 1, pc, lo, st, M => zm_go Y X ret (zm_rn Y X ret code n) code pc lo st M
end
section
/-! THE ABSTRACT MACHINE IS SOUND: where it comes to an end, the machine comes to the same. -/
def zc_v (ad : Nat × Nat → Nat) : zm_V → Value
  | .inl x => .int x
  | .inr r => .ref (ad r)
theorem zc_v_cat (ad : Nat × Nat → Nat) (v : zm_V) : (zc_v ad v).category = 1 := by cases v <;> rfl
def zy_ok (Y : zm_Y) (r : Nat × Nat) : Prop := zy_k Y r.1 = 4 ∨ (r.1 < zy_s Y ∧ r.2 < zy_m Y r.1)
def zv_ok (Y : zm_Y) : zm_V → Prop
  | .inl _ => True
  | .inr r => zy_ok Y r
def zy_d (Y : zm_Y) : List (Nat × Nat) := (List.range (zy_s Y)).flatMap fun s => (List.range (zy_m Y s)).map fun i => (s, i)
theorem zy_d_mem {Y : zm_Y} {r : Nat × Nat} : r ∈ zy_d Y ↔ r.1 < zy_s Y ∧ r.2 < zy_m Y r.1 := by
  obtain ⟨s, i⟩ := r
  simp only [zy_d, List.mem_flatMap, List.mem_range, List.mem_map, Prod.mk.injEq]
  constructor
  · rintro ⟨a, h1, b, h2, rfl, rfl⟩
    exact ⟨h1, h2⟩
  · rintro ⟨h1, h2⟩
    exact ⟨s, h1, i, h2, rfl, rfl⟩
/-- a cell of the store, as the kit's worlds have it -/
def zc_e (Y : zm_Y) (ad : Nat × Nat → Nat) (cA : Nat → ClassId) (M : zm_M) (r : Nat × Nat) : va_E := match zy_k Y r.1 with
  | 0 => .inr (zy_c Y r.1, (List.range (zy_n Y r.1)).map fun k => match zy_r Y r.1 r.2 k with
    | none => .int (M r.1 r.2 k)
    | some q => .ref (ad q))
  | 3 => .inl (cA r.1, zy_n Y r.1, .inr (.inr (.inr (.inr fun j => some (ad (zy_e Y r.1 r.2 j))))))
  | _ => .inl (cA r.1, zy_n Y r.1, .inl (M r.1 r.2))
def zc_w (Y : zm_Y) (ad : Nat × Nat → Nat) (cA : Nat → ClassId) (M : zm_M) : va_W := (zy_d Y).map fun r => (ad r, zc_e Y ad cA M r)
theorem zc_at {Y : zm_Y} {ad : Nat × Nat → Nat} {cA : Nat → ClassId} {M : zm_M} {r : Nat × Nat} (h : r ∈ zy_d Y) : ∃ q0 : Nat, (zc_w Y ad cA M)[q0]? = some (ad r, zc_e Y ad cA M r) :=
  List.getElem?_of_mem (List.mem_map.mpr ⟨r, h, rfl⟩)
theorem zc_get {Y : zm_Y} {ad : Nat × Nat → Nat} {cA : Nat → ClassId} {M : zm_M} {k : Nat} : (zc_w Y ad cA M)[k]? = ((zy_d Y)[k]?).map fun r => (ad r, zc_e Y ad cA M r) := by
  simp [zc_w]
theorem zc_set {Y : zm_Y} {ad : Nat × Nat → Nat} {cA : Nat → ClassId} {M M' : zm_M} {r : Nat × Nat} {q0 : Nat} {A : Nat → Prop} (hD : va_D A (zc_w Y ad cA M)) (hi : ∀ x ∈ zy_d Y, ∀ y ∈ zy_d Y, ad x = ad y → x = y) (hr : r ∈ zy_d Y) (h : (zc_w Y ad cA M)[q0]? = some (ad r, zc_e Y ad cA M r))
    (ho : ∀ x, x ≠ r → zc_e Y ad cA M' x = zc_e Y ad cA M x) : (zc_w Y ad cA M).set q0 (ad r, zc_e Y ad cA M' r) = zc_w Y ad cA M' := by
  apply List.ext_getElem?
  intro k
  have hl := (List.getElem?_eq_some_iff.mp h).1
  by_cases hk : k = q0
  · subst hk
    rw [List.getElem?_set_self hl, zc_get]
    rw [zc_get] at h
    cases hd : (zy_d Y)[k]? with
    | none => rw [hd] at h; cases h
    | some x =>
      rw [hd] at h
      have hx : ad x = ad r := congrArg Prod.fst (Option.some.inj h)
      have hxr := hi x (List.mem_of_getElem? hd) r hr hx
      subst hxr
      rfl
  · rw [List.getElem?_set_ne (Ne.symm hk), zc_get, zc_get]
    cases hd : (zy_d Y)[k]? with
    | none => rfl
    | some x =>
      have hne : x ≠ r := by
        rintro rfl
        exact hk (hD.1 k q0 _ _ (by rw [zc_get, hd]; rfl) h rfl)
      show some (ad x, zc_e Y ad cA M x) = some (ad x, zc_e Y ad cA M' x)
      rw [ho x hne]
/-- locals -/
def zl_ok (Y : zm_Y) (ad : Nat × Nat → Nat) (ls : Array Slot) (nL : Nat) (lo : zm_L) : Prop := lo.length = nL ∧ ls.size = nL ∧ lv_wf ls ∧ ∀ (i : Nat) (v : zm_V), lo[i]? = some (some v) → ls[i]? = some (.val (zc_v ad v)) ∧ zv_ok Y v
def zl_l (ad : Nat × Nat → Nat) (lo : zm_L) : List (Nat × Value) := (List.range lo.length).filterMap fun j => match lo[j]? with
  | some (some v) => some (j, zc_v ad v)
  | _ => none
theorem zl_mem {ad : Nat × Nat → Nat} {lo : zm_L} {q : Nat × Value} : q ∈ zl_l ad lo ↔ ∃ v, lo[q.1]? = some (some v) ∧ q.2 = zc_v ad v := by
  obtain ⟨i, w⟩ := q
  simp only [zl_l, List.mem_filterMap, List.mem_range]
  constructor
  · rintro ⟨j, hj, h⟩
    split at h
    · next v hv => cases h; exact ⟨v, hv, rfl⟩
    · cases h
  · rintro ⟨v, h1, h2⟩
    refine ⟨i, (List.getElem?_eq_some_iff.mp h1).1, ?_⟩
    rw [h1]
    simp only [h2]
theorem zl_has {Y : zm_Y} {ad : Nat × Nat → Nat} {ls : Array Slot} {nL : Nat} {lo : zm_L} (h : zl_ok Y ad ls nL lo) : lv_has ls nL (zl_l ad lo) :=
  ⟨h.2.1, h.2.2.1, fun q hq => by obtain ⟨v, h1, h2⟩ := zl_mem.mp hq; rw [h2]; exact (h.2.2.2 q.1 v h1).1⟩
theorem zl_set {Y : zm_Y} {ad : Nat × Nat → Nat} {ls ls' : Array Slot} {nL i : Nat} {lo : zm_L} {v : zm_V} (h : zl_ok Y ad ls nL lo) (hv : zv_ok Y v) (h' : lv_has ls' nL ((i, zc_v ad v) :: (zl_l ad lo).filter (fun q => !(q.1 == i) && !(q.1 + 1 == i && q.2.category == 2)))) : zl_ok Y ad ls' nL (lo.set i (some v)) := by
  refine ⟨by rw [List.length_set]; exact h.1, h'.1, h'.2.1, fun j w hw => ?_⟩
  by_cases hj : j = i
  · subst hj
    have hlt : j < lo.length := by
      have := (List.getElem?_eq_some_iff.mp hw).1
      rwa [List.length_set] at this
    rw [List.getElem?_set_self hlt] at hw
    cases hw
    exact ⟨h'.2.2 (j, zc_v ad v) List.mem_cons_self, hv⟩
  · rw [List.getElem?_set_ne (Ne.symm hj)] at hw
    refine ⟨h'.2.2 (j, zc_v ad w) (List.mem_cons_of_mem _ (List.mem_filter.mpr ⟨zl_mem.mpr ⟨w, hw, rfl⟩, ?_⟩)), (h.2.2.2 j w hw).2⟩
    simp [hj, zc_v_cat]
/-! the code's table -/
def zm_ln (pc : Nat) : Jvm.ClassFile.Instr → Nat
  | .tableswitch _ _ _ offs => 13 + (3 - pc % 4) + 4 * offs.size
  | .bipush _ => 2
  | .sipush _ => 3
  | .ldc _ => 2
  | .iload _ => 2
  | .aload _ => 2
  | .istore _ => 2
  | .astore _ => 2
  | .iinc _ _ => 3
  | .goto _ => 3
  | .ifCond _ _ => 3
  | .if_icmp _ _ => 3
  | .getfield _ => 3
  | .putfield _ => 3
  | .getstatic _ => 3
  | .invokevirtual _ => 3
  | .invokestatic _ => 3
  | .invokespecial _ => 3
  | .new _ => 3
  | .anewarray _ => 3
  | .newarray _ => 2
  | _ => 1
def zm_tj (pc : Nat) (ts : List Nat) (o : Int) : Bool := match ts with
  | t :: _ => decide ((pc : Int) + o = (t : Int))
  | [] => false
def zm_tg (pc : Nat) (ts : List Nat) : Jvm.ClassFile.Instr → Bool
  | .goto o => zm_tj pc ts o
  | .ifCond _ o => zm_tj pc ts o
  | .if_icmp _ o => zm_tj pc ts o
  | .tableswitch d v w offs => match ts with
    | t :: ts => decide ((pc : Int) + d = (t : Int)) && (decide (w + 1 = v + (ts.length : Int)) && (decide (offs.toList.map (fun o => (pc : Int) + o) = ts.map (fun (t : Nat) => (t : Int))) && (decide (-2 ^ 31 ≤ v) && decide (w < 2 ^ 31))))
    | [] => false
  | _ => true
def zm_en (cc : ByteArray) (q : Nat × Jvm.ClassFile.Instr × Nat × List Nat) : Prop := decode cc q.1 = .ok (q.2.1, zm_ln q.1 q.2.1) ∧ q.2.2.1 = q.1 + zm_ln q.1 q.2.1 ∧ zm_tg q.1 q.2.2.2 q.2.1 = true
theorem zm_sw_ok {T : Type} {t : T} {x : Int32} {d : Nat} {k : Nat → Option T} : ∀ (ts : List Nat) (v : Int), zm_sw x v ts d k = some t → (∃ (j tg : Nat), ts[j]? = some tg ∧ x = Int32.ofInt (v + (j : Int)) ∧ k tg = some t) ∨ ((∀ j : Nat, j < ts.length → x ≠ Int32.ofInt (v + (j : Int))) ∧ k d = some t)
  | [], v, h => Or.inr ⟨fun j hj => absurd hj (Nat.not_lt_zero j), h⟩
  | a :: ts, v, h => by
    unfold zm_sw at h
    split at h
    · next hx => exact Or.inl ⟨0, a, rfl, by simpa using hx, h⟩
    · next hx =>
      rcases zm_sw_ok ts (v + 1) h with ⟨j, tg, h1, h2, h3⟩ | ⟨h1, h2⟩
      · exact Or.inl ⟨j + 1, tg, h1, by rw [h2]; congr 1; omega, h3⟩
      · refine Or.inr ⟨fun j hj => ?_, h2⟩
        cases j with
        | zero => simpa using hx
        | succ j =>
          have h3 := h1 j (by simpa using hj)
          rw [show v + ((j + 1 : Nat) : Int) = v + 1 + (j : Int) by omega]
          exact h3
/-! what a method's frame knows -/
def zg_ok (Y : zm_Y) (cl : List vw_C) (tys : List (ClassId × FieldType)) (ad : Nat × Nat → Nat) (cA : Nat → ClassId) (A : Nat → Prop) : Prop :=
  (∀ M, va_D A (zc_w Y ad cA M)) ∧ (∀ x ∈ zy_d Y, ∀ y ∈ zy_d Y, ad x = ad y → x = y) ∧
  (∀ s, s < zy_s Y → zy_k Y s = 1 → ∃ t0 : Nat, tys[t0]? = some (cA s, .int)) ∧ (∀ s, s < zy_s Y → zy_k Y s = 2 → ∃ t0 : Nat, tys[t0]? = some (cA s, .boolean)) ∧ (∀ s, s < zy_s Y → zy_k Y s = 3 → ∃ (t0 : Nat) (C : String), tys[t0]? = some (cA s, .object C)) ∧
  (∀ s, s < zy_s Y → zy_k Y s = 0 → ∃ (C : String) (T : u_T), cl[zy_c Y s]? = some (C, T, zy_n Y s)) ∧
  (∀ s i k q, s < zy_s Y → i < zy_m Y s → zy_r Y s i k = some q → zy_ok Y q) ∧
  (∀ s i j, s < zy_s Y → i < zy_m Y s → zy_k Y s = 3 → j < zy_n Y s → zy_ok Y (zy_e Y s i j)) ∧
  (∀ s, s < zy_s Y → zy_k Y s < 4) ∧
  (∀ s i k, s < zy_s Y → zy_k Y s = 0 → zy_f Y (zy_c Y s) k < 2 → zy_r Y s i k = none)
def zf_ok (Y : zm_Y) (cl : List vw_C) (Ts : List Cond) (own : String) (fl : Nat → Option (Nat × Nat)) : Prop := ∀ (i c k : Nat), fl i = some (c, k) → ∃ (C : String) (T : u_T) (N : Nat), cl[c]? = some (C, T, N) ∧ k < N ∧ (∀ w ∈ u_ws C T N, w ∈ Ts) ∧
  (Cond.fieldLink own i (T k).1 (T k).2.1 (T k).2.2.1 ∈ Ts ∨ ∃ host, Cond.fieldLinkNest own i (T k).1 (T k).2.1 (T k).2.2.1 host ∈ Ts) ∧
  (∃ ty0 : Nat → FieldType, ∀ k, k < N → parseFieldDescriptor (T k).2.2.1 = some (ty0 k)) ∧ (∀ a, a < N → ∀ b, b < N → a ≠ b → (T a).2.1 ≠ (T b).2.1) ∧
  (zy_f Y c k = 0 → (T k).2.2.2 = false ∧ parseFieldDescriptor (T k).2.2.1 = some .int) ∧ (zy_f Y c k = 1 → (T k).2.2.2 = false ∧ parseFieldDescriptor (T k).2.2.1 = some .boolean)
section ZS
variable {p : Program} {l : Launch} {e : Env} {R : Room} {s : State} {m : MethodId} {args : Array Value} {below : List Frame} {meth : Method} {c : Code} {H : Heap} {locs : List Loc} {cells slots : Nat} {Q : State → Prop}
variable {cc : ByteArray} {pc nL : Nat} {ls : Array Slot} {rest : List Value} {D : va_G} {cl : List vw_C} {tys : List (ClassId × FieldType)} {A : Nat → Prop} {ad : Nat × Nat → Nat} {cA : Nat → ClassId} {Y : zm_Y} {own : String} {Ts : List Cond} {M : zm_M}
/-- the world holds the store M -/
def zs_at (D : va_G) (cl : List vw_C) (Y : zm_Y) (ad : Nat × Nat → Nat) (cA : Nat → ClassId) (A : Nat → Prop) (H0 : Heap) (M : zm_M) (H : Heap) (locs : List Loc) : Prop := va_P D cl (zc_w Y ad cA M) H ∧ va_S A H0 H locs
theorem zs_gf (hx : p.tables.exec = Jvm.exec) (hb : c.code = cc) (hown : s.vm.findClass own = some m.cls) (hts : ∀ w ∈ Ts, w.before args s = true) (hG : zg_ok Y cl tys ad cA A) (hK : va_K D cl tys s) {fl : Nat → Option (Nat × Nat)} (hF : zf_ok Y cl Ts own fl) {T : Type} {t : T} {i : Nat} {r : Nat × Nat} {k : zm_V → Option T} (hr : zy_ok Y r) (h : zm_gf Y (fl i) r M k = some t) (hP : zs_at D cl Y ad cA A s.heap M H locs) (hd : decode cc pc = .ok (.getfield i, 3))
    (kk : ∀ v, zv_ok Y v → k v = some t → W p l e R s m args below meth c H locs cells slots Q (F0 m (pc + 3) ls (zc_v ad v :: rest))) : W p l e R s m args below meth c H locs cells slots Q (F0 m pc ls (.ref (ad r) :: rest)) := by
  unfold zm_gf at h
  split at h
  · next cn j hf =>
    split at h
    · next hc =>
      rw [Bool.and_eq_true, Nat.beq_eq, Nat.beq_eq] at hc
      obtain ⟨hk0, hkc⟩ := hc
      have hdm : r.1 < zy_s Y ∧ r.2 < zy_m Y r.1 := by
        rcases hr with h4 | h4
        · rw [hk0] at h4; cases h4
        · exact h4
      obtain ⟨C, T0, hcl⟩ := hG.2.2.2.2.2.1 r.1 hdm.1 hk0
      obtain ⟨C', T', N', hcl', hjN, hin, hlink, -⟩ := hF i cn j hf
      rw [hkc, hcl'] at hcl
      cases hcl
      obtain ⟨q0, hq0⟩ := zc_at (ad := ad) (cA := cA) (M := M) (zy_d_mem.mpr hdm)
      have he : zc_e Y ad cA M r = .inr (cn, (List.range (zy_n Y r.1)).map fun k => match zy_r Y r.1 r.2 k with
          | none => .int (M r.1 r.2 k)
          | some q => .ref (ad q)) := by
        unfold zc_e
        rw [hk0, hkc]
        rfl
      rw [he] at hq0
      have key : ∀ v : zm_V, zv_ok Y v → k v = some t → ((List.range (zy_n Y r.1)).map fun k => match zy_r Y r.1 r.2 k with
          | none => Value.int (M r.1 r.2 k)
          | some q => .ref (ad q))[j]? = some (zc_v ad v) → W p l e R s m args below meth c H locs cells slots Q (F0 m pc ls (.ref (ad r) :: rest)) := by
        intro v hv hkv hg
        rcases hlink with hl | ⟨host, hl⟩
        · exact va_get hx hb hts hin hown hK hP.1 q0 hq0 hcl' j hjN (hts _ hl) (fun _ h => h) hg hd (kk v hv hkv)
        · exact va_getN hx hb hts hin hown hK hP.1 q0 hq0 hcl' j hjN (hts _ hl) (fun _ h => h) hg hd (kk v hv hkv)
      cases hz : zy_r Y r.1 r.2 j with
      | none =>
        rw [hz] at h
        refine key (.inl (M r.1 r.2 j)) trivial h ?_
        simp [hjN, hz, zc_v]
      | some q =>
        rw [hz] at h
        refine key (.inr q) (hG.2.2.2.2.2.2.1 r.1 r.2 j q hdm.1 hdm.2 hz) h ?_
        simp [hjN, hz, zc_v]
    · cases h
  · cases h
theorem zc_e_ne {Y : zm_Y} {ad : Nat × Nat → Nat} {cA : Nat → ClassId} {M : zm_M} {r x : Nat × Nat} {k : Nat} {v : Int32} (h : x ≠ r) : zc_e Y ad cA (zm_up M r.1 r.2 k v) x = zc_e Y ad cA M x := by
  have hr : ∀ k', zm_up M r.1 r.2 k v x.1 x.2 k' = M x.1 x.2 k' := fun k' => by
    unfold zm_up
    rw [if_neg]
    rintro ⟨h1, h2, -⟩
    exact h (Prod.ext h1 h2)
  have hf : zm_up M r.1 r.2 k v x.1 x.2 = M x.1 x.2 := funext hr
  unfold zc_e
  rw [hf]
theorem zs_pf (hx : p.tables.exec = Jvm.exec) (hb : c.code = cc) (hown : s.vm.findClass own = some m.cls) (hts : ∀ w ∈ Ts, w.before args s = true) (hG : zg_ok Y cl tys ad cA A) (hK : va_K D cl tys s) {fl : Nat → Option (Nat × Nat)} (hF : zf_ok Y cl Ts own fl) {T : Type} {t : T} {i : Nat} {r : Nat × Nat} {x : Int32} {k : zm_M → Option T} (hr : zy_ok Y r) (h : zm_pf Y (fl i) r x M k = some t) (hP : zs_at D cl Y ad cA A s.heap M H locs) (hd : decode cc pc = .ok (.putfield i, 3))
    (kk : ∀ M' H' locs', k M' = some t → zs_at D cl Y ad cA A s.heap M' H' locs' → W p l e R s m args below meth c H' locs' cells slots Q (F0 m (pc + 3) ls rest)) : W p l e R s m args below meth c H locs cells slots Q (F0 m pc ls (.int x :: .ref (ad r) :: rest)) := by
  unfold zm_pf at h
  split at h
  · next cn j hf =>
    split at h
    · next hc =>
      rw [Bool.and_eq_true, Nat.beq_eq, Nat.beq_eq] at hc
      obtain ⟨hk0, hkc⟩ := hc
      have hdm : r.1 < zy_s Y ∧ r.2 < zy_m Y r.1 := by
        rcases hr with h4 | h4
        · rw [hk0] at h4; cases h4
        · exact h4
      obtain ⟨C, T0, hcl⟩ := hG.2.2.2.2.2.1 r.1 hdm.1 hk0
      obtain ⟨C', T', N', hcl', hjN, hin, hlink, ⟨ty0, hty⟩, hnm, hf0, hf1⟩ := hF i cn j hf
      have hcl2 := hcl
      rw [hkc, hcl'] at hcl2
      cases hcl2
      obtain ⟨q0, hq0⟩ := zc_at (ad := ad) (cA := cA) (M := M) (zy_d_mem.mpr hdm)
      have hq1 := hq0
      have he : ∀ M : zm_M, zc_e Y ad cA M r = .inr (cn, (List.range (zy_n Y r.1)).map fun k => match zy_r Y r.1 r.2 k with
          | none => .int (M r.1 r.2 k)
          | some q => .ref (ad q)) := by
        intro M
        unfold zc_e
        rw [hk0, hkc]
        rfl
      rw [he] at hq1
      have key : ∀ (ty : FieldType), (T0 j).2.2.2 = false → parseFieldDescriptor (T0 j).2.2.1 = some ty → zy_f Y cn j < 2 → narrow ty (.int x) = .int x → fits ty (.int x) = true → k (zm_up M r.1 r.2 j x) = some t → W p l e R s m args below meth c H locs cells slots Q (F0 m pc ls (.int x :: .ref (ad r) :: rest)) := by
        intro ty hfin hpd hz2 hnar hfit hk
        have hz : zy_r Y r.1 r.2 j = none := hG.2.2.2.2.2.2.2.2.2 r.1 r.2 j hdm.1 hk0 (by rw [hkc]; exact hz2)
        have hset : (List.range (zy_n Y r.1)).map (fun k => match zy_r Y r.1 r.2 k with
          | none => Value.int (zm_up M r.1 r.2 j x r.1 r.2 k)
          | some q => .ref (ad q)) = ((List.range (zy_n Y r.1)).map (fun k => match zy_r Y r.1 r.2 k with
          | none => Value.int (M r.1 r.2 k)
          | some q => .ref (ad q))).set j (.int x) := by
          apply List.ext_getElem?
          intro n
          by_cases hn : n = j
          · subst hn
            rw [List.getElem?_set_self (by simpa using hjN)]
            simp [hjN, hz, zm_up]
          · rw [List.getElem?_set_ne (Ne.symm hn)]
            simp only [List.getElem?_map, List.getElem?_range]
            by_cases hlt : n < zy_n Y r.1
            · simp [hlt, zm_up, hn]
            · simp [hlt]
        have hws : (zc_w Y ad cA M).set q0 (ad r, .inr (cn, ((List.range (zy_n Y r.1)).map (fun k => match zy_r Y r.1 r.2 k with
          | none => Value.int (M r.1 r.2 k)
          | some q => .ref (ad q))).set j (.int x))) = zc_w Y ad cA (zm_up M r.1 r.2 j x) := by
          rw [← hset, ← he (zm_up M r.1 r.2 j x)]
          exact zc_set (hG.1 M) hG.2.1 (zy_d_mem.mpr hdm) hq0 (fun y hy => zc_e_ne hy)
        rcases hlink with hl | ⟨host, hl⟩
        · refine va_put hx hb hts hin ty0 hty hnm hown hK hP.1 (hG.1 M) hP.2 q0 hq1 hcl' j hjN (hts _ hl) (fun _ h => h) hfin hpd hnar hfit (by simpa using hjN) hd (fun H1 locs1 h1 h2 h3 => ?_)
          rw [hws] at h1
          exact kk _ H1 locs1 hk ⟨h1, h3⟩
        · refine va_putN hx hb hts hin ty0 hty hnm hown hK hP.1 (hG.1 M) hP.2 q0 hq1 hcl' j hjN (hts _ hl) (fun _ h => h) hfin hpd hnar hfit (by simpa using hjN) hd (fun H1 locs1 h1 h2 h3 => ?_)
          rw [hws] at h1
          exact kk _ H1 locs1 hk ⟨h1, h3⟩
      split at h
      · next hz => exact key .int (hf0 hz).1 (hf0 hz).2 (by omega) rfl rfl h
      · next hz =>
        split at h
        · next h01 =>
          refine key .boolean (hf1 hz).1 (hf1 hz).2 (by omega) ?_ ?_ h
          · rcases h01 with rfl | rfl <;> rfl
          · rcases h01 with rfl | rfl <;> rfl
        · cases h
      · cases h
    · cases h
  · cases h
end ZS
end
section
section ZT
variable {p : Program} {l : Launch} {e : Env} {R : Room} {s : State} {m : MethodId} {args : Array Value} {below : List Frame} {meth : Method} {c : Code} {H : Heap} {locs : List Loc} {cells slots : Nat} {Q : State → Prop}
variable {cc : ByteArray} {pc nL : Nat} {ls : Array Slot} {rest : List Value} {D : va_G} {cl : List vw_C} {tys : List (ClassId × FieldType)} {A : Nat → Prop} {ad : Nat × Nat → Nat} {cA : Nat → ClassId} {Y : zm_Y} {own : String} {Ts : List Cond} {M : zm_M}
theorem zs_dom {Y : zm_Y} {r : Nat × Nat} {n : Nat} (h : zy_ok Y r) (hk : zy_k Y r.1 = n) (hn : n ≠ 4) : r.1 < zy_s Y ∧ r.2 < zy_m Y r.1 := by
  rcases h with h | h
  · exact absurd (hk.symm.trans h) hn
  · exact h
theorem zs_arr {Y : zm_Y} {r : Nat × Nat} {M : zm_M} (hk : zy_k Y r.1 = 1 ∨ zy_k Y r.1 = 2) : zc_e Y ad cA M r = .inl (cA r.1, zy_n Y r.1, .inl (M r.1 r.2)) := by
  unfold zc_e
  rcases hk with h | h <;> rw [h] <;> rfl
theorem zs_nin {i : Int32} {n : Nat} (h : ¬ (i < 0 ∨ n ≤ i.toNatClampNeg)) : vp_in i n := h
theorem zs_il (hx : p.tables.exec = Jvm.exec) (hb : c.code = cc) (hG : zg_ok Y cl tys ad cA A) (hK : va_K D cl tys s) {r : Nat × Nat} {i : Int32} (hr : zy_ok Y r) (hk : zy_k Y r.1 = 1) (hin : ¬ (i < 0 ∨ zy_n Y r.1 ≤ i.toNatClampNeg)) (hP : zs_at D cl Y ad cA A s.heap M H locs) (hd : decode cc pc = .ok (.iaload, 1))
    (kk : W p l e R s m args below meth c H locs cells slots Q (F0 m (pc + 1) ls (.int (M r.1 r.2 i.toNatClampNeg) :: rest))) : W p l e R s m args below meth c H locs cells slots Q (F0 m pc ls (.int i :: .ref (ad r) :: rest)) := by
  have hdm := zs_dom hr hk (by decide)
  obtain ⟨q0, hq0⟩ := zc_at (ad := ad) (cA := cA) (M := M) (zy_d_mem.mpr hdm)
  rw [zs_arr (Or.inl hk)] at hq0
  obtain ⟨t0, ht⟩ := hG.2.2.1 r.1 hdm.1 hk
  exact va_iald hx hb hK hP.1 q0 t0 hq0 ht hin hd kk
theorem zs_bl (hx : p.tables.exec = Jvm.exec) (hb : c.code = cc) (hG : zg_ok Y cl tys ad cA A) (hK : va_K D cl tys s) {r : Nat × Nat} {i : Int32} (hr : zy_ok Y r) (hk : zy_k Y r.1 = 2) (hin : ¬ (i < 0 ∨ zy_n Y r.1 ≤ i.toNatClampNeg)) (hP : zs_at D cl Y ad cA A s.heap M H locs) (hd : decode cc pc = .ok (.baload, 1))
    (kk : W p l e R s m args below meth c H locs cells slots Q (F0 m (pc + 1) ls (.int (M r.1 r.2 i.toNatClampNeg) :: rest))) : W p l e R s m args below meth c H locs cells slots Q (F0 m pc ls (.int i :: .ref (ad r) :: rest)) := by
  have hdm := zs_dom hr hk (by decide)
  obtain ⟨q0, hq0⟩ := zc_at (ad := ad) (cA := cA) (M := M) (zy_d_mem.mpr hdm)
  rw [zs_arr (Or.inr hk)] at hq0
  obtain ⟨t0, ht⟩ := hG.2.2.2.1 r.1 hdm.1 hk
  exact va_zald hx hb hK hP.1 q0 t0 hq0 ht hin hd kk
theorem zs_al (hx : p.tables.exec = Jvm.exec) (hb : c.code = cc) (hG : zg_ok Y cl tys ad cA A) (hK : va_K D cl tys s) {r : Nat × Nat} {i : Int32} (hr : zy_ok Y r) (hk : zy_k Y r.1 = 3) (hin : ¬ (i < 0 ∨ zy_n Y r.1 ≤ i.toNatClampNeg)) (hP : zs_at D cl Y ad cA A s.heap M H locs) (hd : decode cc pc = .ok (.aaload, 1))
    (kk : W p l e R s m args below meth c H locs cells slots Q (F0 m (pc + 1) ls (.ref (ad (zy_e Y r.1 r.2 i.toNatClampNeg)) :: rest))) : W p l e R s m args below meth c H locs cells slots Q (F0 m pc ls (.int i :: .ref (ad r) :: rest)) := by
  have hdm := zs_dom hr hk (by decide)
  obtain ⟨q0, hq0⟩ := zc_at (ad := ad) (cA := cA) (M := M) (zy_d_mem.mpr hdm)
  have he : zc_e Y ad cA M r = .inl (cA r.1, zy_n Y r.1, .inr (.inr (.inr (.inr fun j => some (ad (zy_e Y r.1 r.2 j)))))) := by
    unfold zc_e
    rw [hk]
    rfl
  rw [he] at hq0
  obtain ⟨t0, C, ht⟩ := hG.2.2.2.2.1 r.1 hdm.1 hk
  exact va_aldq hx hb hK hP.1 q0 t0 hq0 ht hin hd kk
theorem zs_up (M : zm_M) (r : Nat × Nat) (k : Nat) (x : Int32) : zm_up M r.1 r.2 k x r.1 r.2 = upd (M r.1 r.2) k x := by
  funext j
  unfold zm_up upd
  by_cases h : j = k <;> simp [h]
theorem zs_is (hx : p.tables.exec = Jvm.exec) (hb : c.code = cc) (hG : zg_ok Y cl tys ad cA A) (hK : va_K D cl tys s) {r : Nat × Nat} {i x : Int32} (hr : zy_ok Y r) (hk : zy_k Y r.1 = 1) (hin : ¬ (i < 0 ∨ zy_n Y r.1 ≤ i.toNatClampNeg)) (hP : zs_at D cl Y ad cA A s.heap M H locs) (hd : decode cc pc = .ok (.iastore, 1))
    (kk : ∀ H' locs', zs_at D cl Y ad cA A s.heap (zm_up M r.1 r.2 i.toNatClampNeg x) H' locs' → W p l e R s m args below meth c H' locs' cells slots Q (F0 m (pc + 1) ls rest)) : W p l e R s m args below meth c H locs cells slots Q (F0 m pc ls (.int x :: .int i :: .ref (ad r) :: rest)) := by
  have hdm := zs_dom hr hk (by decide)
  obtain ⟨q0, hq0⟩ := zc_at (ad := ad) (cA := cA) (M := M) (zy_d_mem.mpr hdm)
  have hq1 := hq0
  rw [zs_arr (Or.inl hk)] at hq1
  obtain ⟨t0, ht⟩ := hG.2.2.1 r.1 hdm.1 hk
  refine va_iast hx hb hK hP.1 (hG.1 M) hP.2 q0 t0 hq1 ht hin hd (fun H1 locs1 h1 h2 h3 => kk H1 locs1 ⟨?_, h3⟩)
  have hws := zc_set (M' := zm_up M r.1 r.2 i.toNatClampNeg x) (hG.1 M) hG.2.1 (zy_d_mem.mpr hdm) hq0 (fun y hy => zc_e_ne hy)
  rw [zs_arr (Or.inl hk), zs_up] at hws
  rw [← hws]
  exact h1
theorem zs_bs (hx : p.tables.exec = Jvm.exec) (hb : c.code = cc) (hG : zg_ok Y cl tys ad cA A) (hK : va_K D cl tys s) {r : Nat × Nat} {i x : Int32} (hr : zy_ok Y r) (hk : zy_k Y r.1 = 2) (hin : ¬ (i < 0 ∨ zy_n Y r.1 ≤ i.toNatClampNeg)) (hP : zs_at D cl Y ad cA A s.heap M H locs) (hd : decode cc pc = .ok (.bastore, 1))
    (kk : ∀ H' locs', zs_at D cl Y ad cA A s.heap (zm_up M r.1 r.2 i.toNatClampNeg (x &&& 1)) H' locs' → W p l e R s m args below meth c H' locs' cells slots Q (F0 m (pc + 1) ls rest)) : W p l e R s m args below meth c H locs cells slots Q (F0 m pc ls (.int x :: .int i :: .ref (ad r) :: rest)) := by
  have hdm := zs_dom hr hk (by decide)
  obtain ⟨q0, hq0⟩ := zc_at (ad := ad) (cA := cA) (M := M) (zy_d_mem.mpr hdm)
  have hq1 := hq0
  rw [zs_arr (Or.inr hk)] at hq1
  obtain ⟨t0, ht⟩ := hG.2.2.2.1 r.1 hdm.1 hk
  refine va_zast hx hb hK hP.1 (hG.1 M) hP.2 q0 t0 hq1 ht hin hd (fun H1 locs1 h1 h2 h3 => kk H1 locs1 ⟨?_, h3⟩)
  have hws := zc_set (M' := zm_up M r.1 r.2 i.toNatClampNeg (x &&& 1)) (hG.1 M) hG.2.1 (zy_d_mem.mpr hdm) hq0 (fun y hy => zc_e_ne hy)
  rw [zs_arr (Or.inr hk), zs_up] at hws
  rw [← hws]
  exact h1
theorem zs_ln (hx : p.tables.exec = Jvm.exec) (hb : c.code = cc) (hG : zg_ok Y cl tys ad cA A) (hK : va_K D cl tys s) {r : Nat × Nat} (hr : zy_ok Y r) (hk : zy_k Y r.1 ≠ 0) (hT : zy_k Y r.1 = 4 → va_T .int (ad r) (zy_n Y r.1) (fun j => .int (zy_t Y r.1 j)) A s s.heap) (hP : zs_at D cl Y ad cA A s.heap M H locs) (hd : decode cc pc = .ok (.arraylength, 1))
    (kk : W p l e R s m args below meth c H locs cells slots Q (F0 m (pc + 1) ls (.int (nI (zy_n Y r.1)) :: rest))) : W p l e R s m args below meth c H locs cells slots Q (F0 m pc ls (.ref (ad r) :: rest)) := by
  by_cases h4 : zy_k Y r.1 = 4
  · exact va_tlen hx hb (hT h4) hP.2 rfl hd kk
  · have hdm : r.1 < zy_s Y ∧ r.2 < zy_m Y r.1 := zs_dom hr rfl h4
    have hlt := hG.2.2.2.2.2.2.2.2.1 r.1 hdm.1
    obtain ⟨q0, hq0⟩ := zc_at (ad := ad) (cA := cA) (M := M) (zy_d_mem.mpr hdm)
    rcases (show zy_k Y r.1 = 1 ∨ zy_k Y r.1 = 2 ∨ zy_k Y r.1 = 3 by omega) with h | h | h
    · rw [zs_arr (Or.inl h)] at hq0
      obtain ⟨t0, ht⟩ := hG.2.2.1 r.1 hdm.1 h
      exact va_alen hx hb hK hP.1 q0 t0 hq0 ht rfl hd kk
    · rw [zs_arr (Or.inr h)] at hq0
      obtain ⟨t0, ht⟩ := hG.2.2.2.1 r.1 hdm.1 h
      exact va_alen hx hb hK hP.1 q0 t0 hq0 ht rfl hd kk
    · have he : zc_e Y ad cA M r = .inl (cA r.1, zy_n Y r.1, .inr (.inr (.inr (.inr fun j => some (ad (zy_e Y r.1 r.2 j)))))) := by
        unfold zc_e
        rw [h]
        rfl
      rw [he] at hq0
      obtain ⟨t0, C, ht⟩ := hG.2.2.2.2.1 r.1 hdm.1 h
      exact va_alen hx hb hK hP.1 q0 t0 hq0 ht rfl hd kk
end ZT
end
section
section ZU
variable {p : Program} {l : Launch} {e : Env} {R : Room} {s : State} {m : MethodId} {args : Array Value} {below : List Frame} {meth : Method} {c : Code} {H : Heap} {locs : List Loc} {cells slots : Nat} {Q : State → Prop}
variable {cc : ByteArray} {pc nL : Nat} {ls : Array Slot} {rest : List Value} {D : va_G} {cl : List vw_C} {tys : List (ClassId × FieldType)} {A : Nat → Prop} {ad : Nat × Nat → Nat} {cA : Nat → ClassId} {Y : zm_Y} {own : String} {Ts : List Cond} {M : zm_M}
/-- a call, whatever it calls: the machine comes behind it -/
def zi_ok (p : Program) (l : Launch) (e : Env) (R : Room) (s : State) (m : MethodId) (args : Array Value) (below : List Frame) (meth : Method) (c : Code) (cells slots : Nat) (Q : State → Prop) (cc : ByteArray) (nL : Nat) (D : va_G) (cl : List vw_C) (A : Nat → Prop) (ad : Nat × Nat → Nat) (cA : Nat → ClassId) (Y : zm_Y) (i : Nat) (F : Option zm_F) : Prop :=
  ∀ (pc : Nat) (ls : Array Slot) (st : List zm_V) (M : zm_M) (H : Heap) (locs : List Loc) (ins : Jvm.ClassFile.Instr), (ins = .invokevirtual i ∨ ins = .invokestatic i) → decode cc pc = .ok (ins, 3) → ls.size = nL → (∀ v ∈ st, zv_ok Y v) → zs_at D cl Y ad cA A s.heap M H locs →
    ∀ (T : Type) (t : T) (K : List zm_V → zm_M → Option T), zm_iv F K st M = some t →
      (∀ (st' : List zm_V) (M' : zm_M) (H' : Heap) (locs' : List Loc), K st' M' = some t → (∀ v ∈ st', zv_ok Y v) → zs_at D cl Y ad cA A s.heap M' H' locs' → W p l e R s m args below meth c H' locs' cells slots Q (F0 m (pc + 3) ls (st'.map (zc_v ad)))) →
      W p l e R s m args below meth c H locs cells slots Q (F0 m pc ls (st.map (zc_v ad)))
def zm_rt : Option zm_V → Jvm.ClassFile.Instr
  | none => .return_
  | some (.inl _) => .ireturn
  | some (.inr _) => .areturn
set_option maxHeartbeats 4000000 in
set_option maxRecDepth 100000 in
theorem zm_ex_ok {X : zm_X} (hx : p.tables.exec = Jvm.exec) (hb : c.code = cc) (hown : s.vm.findClass own = some m.cls) (hts : ∀ w ∈ Ts, w.before args s = true) (hG : zg_ok Y cl tys ad cA A) (hK0 : va_K D cl tys s) (hF : zf_ok Y cl Ts own X.1)
    (hC : ∀ i v, X.2.1 i = some v → Cond.constant own i v ∈ Ts) (hT : ∀ r, zy_k Y r.1 = 4 → va_T .int (ad r) (zy_n Y r.1) (fun j => .int (zy_t Y r.1 j)) A s s.heap)
    (hZ : ∀ i q, X.2.2.1 i = some q → zy_ok Y q ∧ ∃ C n d, va_Z C n d (.ref (ad q)) A s s.heap ∧ (Cond.fieldLink own i C n d ∈ Ts ∨ ∃ host, Cond.fieldLinkNest own i C n d host ∈ Ts))
    (hI : ∀ i, zi_ok p l e R s m args below meth c cells slots Q cc nL D cl A ad cA Y i (X.2.2.2 i))
    {T : Type} {t : T} {ret : Option zm_V → zm_M → Option T} {K : Nat → zm_L → List zm_V → zm_M → Option T} {nx : Nat} {ts : List Nat} {lo : zm_L} {st : List zm_V} {ins : Jvm.ClassFile.Instr}
    (hR : ∀ v M' H' locs' pc' ls', ret v M' = some t → (∀ w ∈ v, zv_ok Y w) → zs_at D cl Y ad cA A s.heap M' H' locs' → decode cc pc' = .ok (zm_rt v, 1) → W p l e R s m args below meth c H' locs' cells slots Q (F0 m pc' ls' (v.toList.map (zc_v ad))))
    (hK : ∀ pc' lo' st' M' H' locs' ls', K pc' lo' st' M' = some t → zl_ok Y ad ls' nL lo' → (∀ v ∈ st', zv_ok Y v) → zs_at D cl Y ad cA A s.heap M' H' locs' → W p l e R s m args below meth c H' locs' cells slots Q (F0 m pc' ls' (st'.map (zc_v ad))))
    (hen : zm_en cc (pc, ins, nx, ts)) (hl : zl_ok Y ad ls nL lo) (hst : ∀ v ∈ st, zv_ok Y v) (hP : zs_at D cl Y ad cA A s.heap M H locs)
    (h : zm_ex Y X ret K nx ts lo st M ins = some t) : W p l e R s m args below meth c H locs cells slots Q (F0 m pc ls (st.map (zc_v ad))) := by
  obtain ⟨hd, hnx, htg⟩ := hen
  dsimp only at hd hnx htg
  have push : ∀ {v : zm_V} {r : List zm_V}, zv_ok Y v → (∀ w ∈ r, zv_ok Y w) → ∀ w ∈ v :: r, zv_ok Y w := fun hv hr w hw => by
    rcases List.mem_cons.mp hw with rfl | hw
    · exact hv
    · exact hr w hw
  have tail : ∀ {v : zm_V} {r : List zm_V}, (∀ w ∈ v :: r, zv_ok Y w) → ∀ w ∈ r, zv_ok Y w := fun h w hw => h w (List.mem_cons_of_mem _ hw)
  have li : ∀ {i : Nat} {k : Int32 → Option T}, zm_li lo i k = some t → ∃ x, ls[i]? = some (.val (.int x)) ∧ k x = some t := by
    intro i k hk
    unfold zm_li at hk
    split at hk
    · next x hx => exact ⟨x, (hl.2.2.2 i _ hx).1, hk⟩
    · cases hk
  have la : ∀ {i : Nat} {k : Nat × Nat → Option T}, zm_la lo i k = some t → ∃ x, ls[i]? = some (.val (.ref (ad x))) ∧ zy_ok Y x ∧ k x = some t := by
    intro i k hk
    unfold zm_la at hk
    split at hk
    · next x hx => exact ⟨x, (hl.2.2.2 i _ hx).1, (hl.2.2.2 i _ hx).2, hk⟩
    · cases hk
  have sl : ∀ {i : Nat} {v : zm_V} {k : zm_L → Option T}, zm_sl lo i v k = some t → i < nL ∧ k (lo.set i (some v)) = some t := by
    intro i v k hk
    unfold zm_sl at hk
    split at hk
    · next x hx => exact ⟨by rw [← hl.1]; exact (List.getElem?_eq_some_iff.mp hx).1, hk⟩
    · cases hk
  have b1 : ∀ {k : Int32 → List zm_V → Option T}, zm_b1 st k = some t → ∃ x r, st = .inl x :: r ∧ k x r = some t := by
    intro k hk
    unfold zm_b1 at hk
    split at hk
    · next x r => exact ⟨x, r, rfl, hk⟩
    · cases hk
  have b2 : ∀ {k : Int32 → Int32 → List zm_V → Option T}, zm_b2 st k = some t → ∃ x y r, st = .inl y :: .inl x :: r ∧ k x y r = some t := by
    intro k hk
    unfold zm_b2 at hk
    split at hk
    · next y x r => exact ⟨x, y, r, rfl, hk⟩
    · cases hk
  have tj : ∀ {o : Int} {k : Nat → Option T}, zm_tj pc ts o = true → zm_t0 ts k = some t → ∃ tg : Nat, (pc : Int) + o = (tg : Int) ∧ k tg = some t := by
    intro o k h1 h2
    unfold zm_tj at h1
    unfold zm_t0 at h2
    split at h1
    · next a b => exact ⟨a, of_decide_eq_true h1, h2⟩
    · cases h1
  cases ins
  case iconst n =>
    rw [hnx] at h
    exact lv_iconst hx hb hd rfl (hK _ _ _ _ _ _ _ h hl (push trivial hst) hP)
  case bipush n =>
    rw [hnx] at h
    exact lv_bipush hx hb hd rfl (hK _ _ _ _ _ _ _ h hl (push trivial hst) hP)
  case sipush n =>
    rw [hnx] at h
    exact lv_sipush hx hb hd rfl (hK _ _ _ _ _ _ _ h hl (push trivial hst) hP)
  case ldc i =>
    rw [hnx] at h
    simp only [zm_ex] at h
    split at h
    · next v hv => exact lv_ldc hx hb hown (hts _ (hC i v hv)) hd (hK _ _ _ _ _ _ _ h hl (push trivial hst) hP)
    · cases h
  case iload i =>
    rw [hnx] at h
    obtain ⟨x, hg, h⟩ := li h
    exact lv_iload hx hb hd hg (hK _ _ _ _ _ _ _ h hl (push trivial hst) hP)
  case iload_n i =>
    rw [hnx] at h
    obtain ⟨x, hg, h⟩ := li h
    exact lv_iload_n hx hb hd rfl hg (hK _ _ _ _ _ _ _ h hl (push trivial hst) hP)
  case aload i =>
    rw [hnx] at h
    obtain ⟨x, hg, hv, h⟩ := la h
    exact lv_aload hx hb hd hg (hK _ _ _ _ _ _ _ h hl (push hv hst) hP)
  case aload_n i =>
    rw [hnx] at h
    obtain ⟨x, hg, hv, h⟩ := la h
    exact lv_aload_n hx hb hd rfl hg (hK _ _ _ _ _ _ _ h hl (push hv hst) hP)
  case istore i =>
    rw [hnx] at h
    obtain ⟨x, r, rfl, h2⟩ := b1 h
    obtain ⟨hi, h3⟩ := sl h2
    exact lv_istore hx hb hd (zl_has hl) hi rfl (fun ls' hl' => hK _ _ _ _ _ _ _ h3 (zl_set (v := .inl x) hl trivial hl') (tail hst) hP)
  case istore_n i =>
    rw [hnx] at h
    obtain ⟨x, r, rfl, h2⟩ := b1 h
    obtain ⟨hi, h3⟩ := sl h2
    exact lv_istore_n hx hb hd rfl (zl_has hl) hi rfl (fun ls' hl' => hK _ _ _ _ _ _ _ h3 (zl_set (v := .inl x) hl trivial hl') (tail hst) hP)
  case astore i =>
    rw [hnx] at h
    simp only [zm_ex] at h
    split at h
    · next x r =>
      obtain ⟨hi, h⟩ := sl h
      exact lv_astore hx hb hd (zl_has hl) hi rfl (fun ls' hl' => hK _ _ _ _ _ _ _ h (zl_set (v := .inr x) hl (hst _ List.mem_cons_self) hl') (tail hst) hP)
    · cases h
  case astore_n i =>
    rw [hnx] at h
    simp only [zm_ex] at h
    split at h
    · next x r =>
      obtain ⟨hi, h⟩ := sl h
      exact lv_astore_n hx hb hd rfl (zl_has hl) hi rfl (fun ls' hl' => hK _ _ _ _ _ _ _ h (zl_set (v := .inr x) hl (hst _ List.mem_cons_self) hl') (tail hst) hP)
    · cases h
  case iinc i n =>
    rw [hnx] at h
    simp only [zm_ex] at h
    unfold zm_li at h
    split at h
    · next x hx0 =>
      obtain ⟨hi, h⟩ := sl h
      obtain ⟨k0, hk0⟩ := List.getElem?_of_mem (zl_mem.mpr ⟨.inl x, hx0, rfl⟩ : (i, zc_v ad (.inl x)) ∈ zl_l ad lo)
      exact lv_iinc hx hb hd (zl_has hl) hk0 rfl hi rfl (fun ls' hl' => hK _ _ _ _ _ _ _ h (zl_set (v := .inl (x + Int32.ofInt n)) hl trivial hl') hst hP)
    · cases h
  case iadd =>
    rw [hnx] at h
    obtain ⟨x, y, r, rfl, h⟩ := b2 h
    exact lv_iadd hx hb hd (hK _ _ _ _ _ _ _ h hl (push trivial (tail (tail hst))) hP)
  case isub =>
    rw [hnx] at h
    obtain ⟨x, y, r, rfl, h⟩ := b2 h
    exact lv_isub hx hb hd (hK _ _ _ _ _ _ _ h hl (push trivial (tail (tail hst))) hP)
  case imul =>
    rw [hnx] at h
    obtain ⟨x, y, r, rfl, h⟩ := b2 h
    exact lv_imul hx hb hd (hK _ _ _ _ _ _ _ h hl (push trivial (tail (tail hst))) hP)
  case iand =>
    rw [hnx] at h
    obtain ⟨x, y, r, rfl, h⟩ := b2 h
    exact lv_iand hx hb hd (hK _ _ _ _ _ _ _ h hl (push trivial (tail (tail hst))) hP)
  case ior =>
    rw [hnx] at h
    obtain ⟨x, y, r, rfl, h⟩ := b2 h
    exact lv_ior hx hb hd (hK _ _ _ _ _ _ _ h hl (push trivial (tail (tail hst))) hP)
  case ixor =>
    rw [hnx] at h
    obtain ⟨x, y, r, rfl, h⟩ := b2 h
    exact lv_ixor hx hb hd (hK _ _ _ _ _ _ _ h hl (push trivial (tail (tail hst))) hP)
  case ishl =>
    rw [hnx] at h
    obtain ⟨x, y, r, rfl, h⟩ := b2 h
    exact lv_ishl hx hb hd (hK _ _ _ _ _ _ _ h hl (push trivial (tail (tail hst))) hP)
  case ishr =>
    rw [hnx] at h
    obtain ⟨x, y, r, rfl, h⟩ := b2 h
    exact lv_ishr hx hb hd (hK _ _ _ _ _ _ _ h hl (push trivial (tail (tail hst))) hP)
  case iushr =>
    rw [hnx] at h
    obtain ⟨x, y, r, rfl, h⟩ := b2 h
    exact lv_iushr hx hb hd rfl (hK _ _ _ _ _ _ _ h hl (push trivial (tail (tail hst))) hP)
  case idiv =>
    rw [hnx] at h
    obtain ⟨x, y, r, rfl, h2⟩ := b2 h
    split at h2
    · cases h2
    · next hy => exact lv_idiv hx hb hd hy (hK _ _ _ _ _ _ _ h2 hl (push trivial (tail (tail hst))) hP)
  case irem =>
    rw [hnx] at h
    obtain ⟨x, y, r, rfl, h2⟩ := b2 h
    split at h2
    · cases h2
    · next hy => exact lv_irem hx hb hd hy (hK _ _ _ _ _ _ _ h2 hl (push trivial (tail (tail hst))) hP)
  case ineg =>
    rw [hnx] at h
    obtain ⟨x, r, rfl, h⟩ := b1 h
    exact lv_ineg hx hb hd (hK _ _ _ _ _ _ _ h hl (push trivial (tail hst)) hP)
  case i2b =>
    rw [hnx] at h
    obtain ⟨x, r, rfl, h⟩ := b1 h
    exact lv_i2b hx hb hd rfl (hK _ _ _ _ _ _ _ h hl (push trivial (tail hst)) hP)
  case dup =>
    rw [hnx] at h
    simp only [zm_ex] at h
    split at h
    · next v r => exact lv_dup hx hb hd (zc_v_cat ad v) (hK _ _ _ _ _ _ _ h hl (push (hst _ List.mem_cons_self) hst) hP)
    · cases h
  case pop =>
    rw [hnx] at h
    simp only [zm_ex] at h
    split at h
    · next v r => exact lv_pop hx hb hd (zc_v_cat ad v) (hK _ _ _ _ _ _ _ h hl (tail hst) hP)
    · cases h
  case dup_x1 =>
    rw [hnx] at h
    simp only [zm_ex] at h
    split at h
    · next v w r => exact lv_dup_x1 hx hb hd (zc_v_cat ad v) (zc_v_cat ad w) (hK _ _ _ _ _ _ _ h hl (push (hst _ List.mem_cons_self) (push (hst _ (List.mem_cons_of_mem _ List.mem_cons_self)) (push (hst _ List.mem_cons_self) (tail (tail hst))))) hP)
    · cases h
  case dup2 =>
    rw [hnx] at h
    simp only [zm_ex] at h
    split at h
    · next v w r => exact lv_dup2_11 hx hb hd (zc_v_cat ad v) (zc_v_cat ad w) (hK _ _ _ _ _ _ _ h hl (push (hst _ List.mem_cons_self) (push (hst _ (List.mem_cons_of_mem _ List.mem_cons_self)) hst)) hP)
    · cases h
  case goto o =>
    obtain ⟨tg, ht, h⟩ := tj htg h
    exact lv_goto hx hb hd ht (hK _ _ _ _ _ _ _ h hl hst hP)
  case ifCond cn o =>
    rw [hnx] at h
    obtain ⟨x, r, rfl, h⟩ := b1 h
    obtain ⟨tg, ht, h⟩ := tj htg h
    have go : ∀ pc', K pc' lo r M = some t → W p l e R s m args below meth c H locs cells slots Q (F0 m pc' ls (r.map (zc_v ad))) := fun pc' h => hK _ _ _ _ _ _ _ h hl (tail hst) hP
    cases cn <;> simp only [zm_cm] at h <;> split at h <;> rename_i hc
    · exact lv_if_eq hx hb hd ht (fun _ => go _ h) (fun z => absurd hc z)
    · exact lv_if_eq hx hb hd ht (fun z => absurd z hc) (fun _ => go _ h)
    · exact lv_if_ne hx hb hd ht (fun z => absurd hc z) (fun _ => go _ h)
    · exact lv_if_ne hx hb hd ht (fun _ => go _ h) (fun z => absurd z hc)
    · exact lv_if_lt hx hb hd ht (fun _ => go _ h) (fun z => absurd hc z)
    · exact lv_if_lt hx hb hd ht (fun z => absurd z hc) (fun _ => go _ h)
    · exact lv_if_ge hx hb hd ht (fun z => absurd hc (Int32.not_lt.mpr z)) (fun _ => go _ h)
    · exact lv_if_ge hx hb hd ht (fun _ => go _ h) (fun z => absurd (Int32.not_lt.mp hc) z)
    · exact lv_if_gt hx hb hd ht (fun _ => go _ h) (fun z => absurd hc z)
    · exact lv_if_gt hx hb hd ht (fun z => absurd z hc) (fun _ => go _ h)
    · exact lv_if_le hx hb hd ht (fun z => absurd hc (Int32.not_lt.mpr z)) (fun _ => go _ h)
    · exact lv_if_le hx hb hd ht (fun _ => go _ h) (fun z => absurd (Int32.not_lt.mp hc) z)
  case if_icmp cn o =>
    rw [hnx] at h
    obtain ⟨x, y, r, rfl, h⟩ := b2 h
    obtain ⟨tg, ht, h⟩ := tj htg h
    have go : ∀ pc', K pc' lo r M = some t → W p l e R s m args below meth c H locs cells slots Q (F0 m pc' ls (r.map (zc_v ad))) := fun pc' h => hK _ _ _ _ _ _ _ h hl (tail (tail hst)) hP
    cases cn <;> simp only [zm_cm] at h <;> split at h <;> rename_i hc
    · exact lv_icmp_eq hx hb hd ht (fun _ => go _ h) (fun z => absurd hc z)
    · exact lv_icmp_eq hx hb hd ht (fun z => absurd z hc) (fun _ => go _ h)
    · exact lv_icmp_ne hx hb hd ht (fun z => absurd hc z) (fun _ => go _ h)
    · exact lv_icmp_ne hx hb hd ht (fun _ => go _ h) (fun z => absurd z hc)
    · exact lv_icmp_lt hx hb hd ht (fun _ => go _ h) (fun z => absurd hc z)
    · exact lv_icmp_lt hx hb hd ht (fun z => absurd z hc) (fun _ => go _ h)
    · exact lv_icmp_ge hx hb hd ht (fun z => absurd hc (Int32.not_lt.mpr z)) (fun _ => go _ h)
    · exact lv_icmp_ge hx hb hd ht (fun _ => go _ h) (fun z => absurd (Int32.not_lt.mp hc) z)
    · exact lv_icmp_gt hx hb hd ht (fun _ => go _ h) (fun z => absurd hc z)
    · exact lv_icmp_gt hx hb hd ht (fun z => absurd z hc) (fun _ => go _ h)
    · exact lv_icmp_le hx hb hd ht (fun z => absurd hc (Int32.not_lt.mpr z)) (fun _ => go _ h)
    · exact lv_icmp_le hx hb hd ht (fun _ => go _ h) (fun z => absurd (Int32.not_lt.mp hc) z)
  case tableswitch df v w offs =>
    obtain ⟨x, r, rfl, h2⟩ := b1 h
    split at h2
    · next d ts' =>
      simp only [zm_tg, Bool.and_eq_true, decide_eq_true_eq] at htg
      obtain ⟨g1, g2, g3, g4, g5⟩ := htg
      rcases zm_sw_ok ts' v h2 with ⟨j, tg, q1, q2, q3⟩ | ⟨q1, q2⟩
      · have hj : j < ts'.length := (List.getElem?_eq_some_iff.mp q1).1
        have hxi : x.toInt = v + (j : Int) := by
          rw [q2]
          exact Int32.toInt_ofInt_of_le (by omega) (by omega)
        have hof : (offs.toList.map (fun o => (pc : Int) + o))[j]? = some (tg : Int) := by
          rw [g3, List.getElem?_map, q1]
          rfl
        rw [List.getElem?_map] at hof
        cases ho : offs.toList[j]? with
        | none => rw [ho] at hof; cases hof
        | some o =>
          rw [ho] at hof
          refine lv_tableIn (off := o) (tgt := tg) hx hb hd (by omega) (by omega) ?_ (Option.some.inj hof) (hK _ _ _ _ _ _ _ q3 hl (tail hst) hP)
          rw [show (x.toInt - v).toNat = j by omega, ← Array.getElem?_toList]
          exact ho
      · refine lv_tableOut (tgt := d) hx hb hd ?_ g1 (hK _ _ _ _ _ _ _ q2 hl (tail hst) hP)
        rcases Int.lt_or_le x.toInt v with z | z
        · exact Or.inl z
        · rcases Int.lt_or_le w x.toInt with z2 | z2
          · exact Or.inr z2
          · exact absurd (by rw [show v + ((x.toInt - v).toNat : Int) = x.toInt by omega, Int32.ofInt_toInt]) (q1 (x.toInt - v).toNat (by omega))
    · cases h2
  case getfield i =>
    rw [hnx] at h
    simp only [zm_ex] at h
    split at h
    · next q r => exact zs_gf hx hb hown hts hG hK0 hF (hst (.inr q) List.mem_cons_self) h hP hd (fun v hv hk => hK _ _ _ _ _ _ _ hk hl (push hv (tail hst)) hP)
    · cases h
  case putfield i =>
    rw [hnx] at h
    simp only [zm_ex] at h
    split at h
    · next x q r => exact zs_pf hx hb hown hts hG hK0 hF (hst (.inr q) (List.mem_cons_of_mem _ List.mem_cons_self)) h hP hd (fun M' H' locs' hk hP' => hK _ _ _ _ _ _ _ hk hl (tail (tail hst)) hP')
    · cases h
  case getstatic i =>
    rw [hnx] at h
    simp only [zm_ex] at h
    split at h
    · next q hq =>
      obtain ⟨hv, C, n, d, hz, hlk⟩ := hZ i q hq
      have k1 := hK _ _ _ _ _ _ _ h hl (push (v := .inr q) hv hst) hP
      rcases hlk with h1 | ⟨host, h1⟩
      · exact va_gets hx hb hz hP.2 hown (hts _ h1) (fun _ h => h) hd k1
      · exact va_getsN hx hb hz hP.2 hown (hts _ h1) (fun _ h => h) hd k1
    · cases h
  case arraylength =>
    rw [hnx] at h
    simp only [zm_ex] at h
    split at h
    · next q r =>
      split at h
      · cases h
      · next hk => exact zs_ln hx hb hG hK0 (hst (.inr q) List.mem_cons_self) (fun z => hk z) (fun z => hT q z) hP hd (hK _ _ _ _ _ _ _ h hl (push trivial (tail hst)) hP)
    · cases h
  case iaload =>
    rw [hnx] at h
    simp only [zm_ex] at h
    split at h
    · next i q r =>
      have hq := hst (.inr q) (List.mem_cons_of_mem _ List.mem_cons_self)
      split at h
      · next hk =>
        split at h
        · cases h
        · next hin => exact zs_il hx hb hG hK0 hq hk hin hP hd (hK _ _ _ _ _ _ _ h hl (push trivial (tail (tail hst))) hP)
      · next hk =>
        split at h
        · cases h
        · next hin => exact va_ti hx hb (hT q hk) hP.2 hin rfl hd (hK _ _ _ _ _ _ _ h hl (push trivial (tail (tail hst))) hP)
      · cases h
    · cases h
  case baload =>
    rw [hnx] at h
    simp only [zm_ex] at h
    split at h
    · next i q r =>
      have hq := hst (.inr q) (List.mem_cons_of_mem _ List.mem_cons_self)
      split at h
      · next hk =>
        split at h
        · cases h
        · next hin => exact zs_bl hx hb hG hK0 hq hk hin hP hd (hK _ _ _ _ _ _ _ h hl (push trivial (tail (tail hst))) hP)
      · cases h
    · cases h
  case aaload =>
    rw [hnx] at h
    simp only [zm_ex] at h
    split at h
    · next i q r =>
      have hq : zy_ok Y q := hst (.inr q) (List.mem_cons_of_mem _ List.mem_cons_self)
      split at h
      · next hk =>
        split at h
        · cases h
        · next hin =>
          have hdm := zs_dom hq hk (by decide)
          have hlt : i.toNatClampNeg < zy_n Y q.1 := Nat.not_le.mp fun z => hin (Or.inr z)
          exact zs_al hx hb hG hK0 hq hk hin hP hd (hK _ _ _ _ _ _ _ h hl (push (v := .inr _) (hG.2.2.2.2.2.2.2.1 q.1 q.2 _ hdm.1 hdm.2 hk hlt) (tail (tail hst))) hP)
      · cases h
    · cases h
  case iastore =>
    rw [hnx] at h
    simp only [zm_ex] at h
    split at h
    · next x i q r =>
      have hq : zy_ok Y q := hst (.inr q) (List.mem_cons_of_mem _ (List.mem_cons_of_mem _ List.mem_cons_self))
      split at h
      · next hk =>
        split at h
        · cases h
        · next hin => exact zs_is hx hb hG hK0 hq hk hin hP hd (fun H' locs' hP' => hK _ _ _ _ _ _ _ h hl (tail (tail (tail hst))) hP')
      · cases h
    · cases h
  case bastore =>
    rw [hnx] at h
    simp only [zm_ex] at h
    split at h
    · next x i q r =>
      have hq : zy_ok Y q := hst (.inr q) (List.mem_cons_of_mem _ (List.mem_cons_of_mem _ List.mem_cons_self))
      split at h
      · next hk =>
        split at h
        · cases h
        · next hin => exact zs_bs hx hb hG hK0 hq hk hin hP hd (fun H' locs' hP' => hK _ _ _ _ _ _ _ h hl (tail (tail (tail hst))) hP')
      · cases h
    · cases h
  case invokevirtual i =>
    rw [hnx] at h
    exact hI i pc ls st M H locs _ (Or.inl rfl) hd hl.2.1 hst hP T t _ h (fun st' M' H' locs' hk hs' hP' => hK _ _ _ _ _ _ _ hk hl hs' hP')
  case invokestatic i =>
    rw [hnx] at h
    exact hI i pc ls st M H locs _ (Or.inr rfl) hd hl.2.1 hst hP T t _ h (fun st' M' H' locs' hk hs' hP' => hK _ _ _ _ _ _ _ hk hl hs' hP')
  case ireturn =>
    simp only [zm_ex] at h
    split at h
    · next x => exact hR (some (.inl x)) M H locs pc ls h (fun w hw => by cases hw; trivial) hP hd
    · cases h
  case areturn =>
    simp only [zm_ex] at h
    split at h
    · next x => exact hR (some (.inr x)) M H locs pc ls h (fun w hw => by cases hw; exact hst _ List.mem_cons_self) hP hd
    · cases h
  case return_ =>
    simp only [zm_ex] at h
    split at h
    · exact hR none M H locs pc ls h (fun w hw => by cases hw) hP hd
    · cases h
  all_goals exact nomatch (show (none : Option T) = some t from h)
set_option maxHeartbeats 4000000 in
theorem zm_go_ok {X : zm_X} (hx : p.tables.exec = Jvm.exec) (hb : c.code = cc) (hown : s.vm.findClass own = some m.cls) (hts : ∀ w ∈ Ts, w.before args s = true) (hG : zg_ok Y cl tys ad cA A) (hK0 : va_K D cl tys s) (hF : zf_ok Y cl Ts own X.1)
    (hC : ∀ i v, X.2.1 i = some v → Cond.constant own i v ∈ Ts) (hT : ∀ r, zy_k Y r.1 = 4 → va_T .int (ad r) (zy_n Y r.1) (fun j => .int (zy_t Y r.1 j)) A s s.heap)
    (hZ : ∀ i q, X.2.2.1 i = some q → zy_ok Y q ∧ ∃ C n d, va_Z C n d (.ref (ad q)) A s s.heap ∧ (Cond.fieldLink own i C n d ∈ Ts ∨ ∃ host, Cond.fieldLinkNest own i C n d host ∈ Ts))
    (hI : ∀ i, zi_ok p l e R s m args below meth c cells slots Q cc nL D cl A ad cA Y i (X.2.2.2 i))
    {T : Type} {t : T} {ret : Option zm_V → zm_M → Option T} {back : Nat → zm_L → List zm_V → zm_M → Option T}
    (hR : ∀ v M' H' locs' pc' ls', ret v M' = some t → (∀ w ∈ v, zv_ok Y w) → zs_at D cl Y ad cA A s.heap M' H' locs' → decode cc pc' = .ok (zm_rt v, 1) → W p l e R s m args below meth c H' locs' cells slots Q (F0 m pc' ls' (v.toList.map (zc_v ad))))
    (hB : ∀ pc' lo' st' M' H' locs' ls', back pc' lo' st' M' = some t → zl_ok Y ad ls' nL lo' → (∀ v ∈ st', zv_ok Y v) → zs_at D cl Y ad cA A s.heap M' H' locs' → W p l e R s m args below meth c H' locs' cells slots Q (F0 m pc' ls' (st'.map (zc_v ad)))) :
    ∀ (code : zm_C), (∀ q ∈ code, zm_en cc q) → ∀ pc lo st M H locs ls, zm_go Y X ret back code pc lo st M = some t → zl_ok Y ad ls nL lo → (∀ v ∈ st, zv_ok Y v) → zs_at D cl Y ad cA A s.heap M H locs → W p l e R s m args below meth c H locs cells slots Q (F0 m pc ls (st.map (zc_v ad)))
  | [], _, pc, lo, st, M, H, locs, ls, h, _, _, _ => by cases h
  | (q, ins, nx, ts) :: code, hen, pc, lo, st, M, H, locs, ls, h, hl, hst, hP => by
    have ih := zm_go_ok hx hb hown hts hG hK0 hF hC hT hZ hI hR hB code (fun q hq => hen q (List.mem_cons_of_mem _ hq))
    unfold zm_go at h
    split at h
    · next hq =>
      have hq' : q = pc := Nat.eq_of_beq_eq_true hq
      subst hq'
      refine zm_ex_ok hx hb hown hts hG hK0 hF hC hT hZ hI hR ?_ (hen _ List.mem_cons_self) hl hst hP h
      intro pc' lo' st' M' H' locs' ls' h' hl' hst' hP'
      split at h'
      · exact hB _ _ _ _ _ _ _ h' hl' hst' hP'
      · exact ih _ _ _ _ _ _ _ h' hl' hst' hP'
    · exact ih _ _ _ _ _ _ _ h hl hst hP
set_option maxHeartbeats 4000000 in
theorem zm_rn_ok {X : zm_X} (hx : p.tables.exec = Jvm.exec) (hb : c.code = cc) (hown : s.vm.findClass own = some m.cls) (hts : ∀ w ∈ Ts, w.before args s = true) (hG : zg_ok Y cl tys ad cA A) (hK0 : va_K D cl tys s) (hF : zf_ok Y cl Ts own X.1)
    (hC : ∀ i v, X.2.1 i = some v → Cond.constant own i v ∈ Ts) (hT : ∀ r, zy_k Y r.1 = 4 → va_T .int (ad r) (zy_n Y r.1) (fun j => .int (zy_t Y r.1 j)) A s s.heap)
    (hZ : ∀ i q, X.2.2.1 i = some q → zy_ok Y q ∧ ∃ C n d, va_Z C n d (.ref (ad q)) A s s.heap ∧ (Cond.fieldLink own i C n d ∈ Ts ∨ ∃ host, Cond.fieldLinkNest own i C n d host ∈ Ts))
    (hI : ∀ i, zi_ok p l e R s m args below meth c cells slots Q cc nL D cl A ad cA Y i (X.2.2.2 i))
    {T : Type} {t : T} {ret : Option zm_V → zm_M → Option T}
    (hR : ∀ v M' H' locs' pc' ls', ret v M' = some t → (∀ w ∈ v, zv_ok Y w) → zs_at D cl Y ad cA A s.heap M' H' locs' → decode cc pc' = .ok (zm_rt v, 1) → W p l e R s m args below meth c H' locs' cells slots Q (F0 m pc' ls' (v.toList.map (zc_v ad))))
    {code : zm_C} (hen : ∀ q ∈ code, zm_en cc q) : ∀ (n pc : Nat) (lo : zm_L) (st : List zm_V) (M : zm_M) (H : Heap) (locs : List Loc) (ls : Array Slot), zm_rn Y X ret code n pc lo st M = some t → zl_ok Y ad ls nL lo → (∀ v ∈ st, zv_ok Y v) → zs_at D cl Y ad cA A s.heap M H locs → W p l e R s m args below meth c H locs cells slots Q (F0 m pc ls (st.map (zc_v ad)))
  | 0, pc, lo, st, M, H, locs, ls, h, _, _, _ => by cases h
  | n + 1, pc, lo, st, M, H, locs, ls, h, hl, hst, hP => zm_go_ok hx hb hown hts hG hK0 hF hC hT hZ hI hR (fun pc' lo' st' M' H' locs' ls' h' hl' hst' hP' => zm_rn_ok hx hb hown hts hG hK0 hF hC hT hZ hI hR hen n pc' lo' st' M' H' locs' ls' h' hl' hst' hP') code hen pc lo st M H locs ls h hl hst hP
end ZU
end
section
/-! CONTRACTS of methods that the abstract machine runs -/
def zk_rm (d : Nat × Nat) : Room := { frames := d.1, cells := 0, slots := 0, locals := d.2 }
abbrev zk_Zs : Type := List (String × String × String × (Nat × Nat))
def zk_cs (Y : zm_Y) (Zs : zk_Zs) (ad : Nat × Nat → Nat) (A : Nat → Prop) (U : State) (H : Heap) : Prop := (∀ r : Nat × Nat, zy_k Y r.1 = 4 → va_T .int (ad r) (zy_n Y r.1) (fun j => .int (zy_t Y r.1 j)) A U H) ∧ ∀ z ∈ Zs, va_Z z.1 z.2.1 z.2.2.1 (.ref (ad z.2.2.2)) A U H
theorem zk_cs.moved {Y : zm_Y} {Zs : zk_Zs} {ad : Nat × Nat → Nat} {A : Nat → Prop} {u U : State} {H : Heap} (hvm : u.vm.Alike U.vm) (h : zk_cs Y Zs ad A u H) : zk_cs Y Zs ad A U H := ⟨fun r hr => (h.1 r hr).moved hvm, fun z hz => (h.2 z hz).moved hvm⟩
theorem zk_cs.kept {Y : zm_Y} {Zs : zk_Zs} {ad : Nat × Nat → Nat} {A : Nat → Prop} {U : State} {H H1 : Heap} (h : zk_cs Y Zs ad A U H) (hq : ∀ a : Nat, a < H.size → ¬ A a → H1[a]? = H[a]?) : zk_cs Y Zs ad A U H1 := ⟨fun r hr => (h.1 r hr).kept hq, fun z hz => (h.2 z hz).kept hq⟩
def zk_nw (w : Cond) : Bool := match w with
  | .fieldLinkNest _ _ _ _ _ _ => true
  | .methodLinkNest _ _ _ _ => true
  | w => w.onTables && w.keeps
def zk_tb (Ts : List Cond) (U : State) : Prop := ∀ w ∈ Ts, va_Nw w U
theorem zk_tb.warm {Ts : List Cond} (hT : ∀ w ∈ Ts, zk_nw w = true) {s U : State} (hW : s.WarmedH U.vm) (h : zk_tb Ts s) : zk_tb Ts U := by
  intro w hw
  have h1 := hT w hw
  have h2 := h w hw
  unfold zk_nw at h1
  split at h1
  · exact va_Nw.warmF hW h2
  · exact va_Nw.warmM hW h2
  · exact word_at hW (Or.inl h1) h2
theorem zk_tb.use {Ts : List Cond} (hT : ∀ w ∈ Ts, zk_nw w = true) {s : State} (args : Array Value) (h : zk_tb Ts s) : ∀ w ∈ Ts, w.before args s = true := by
  intro w hw
  have h1 := hT w hw
  have h2 := h w hw
  unfold zk_nw at h1
  split at h1
  · exact va_Nw.use rfl h2
  · exact va_Nw.use rfl h2
  · exact va_Nw.use (Bool.and_eq_true _ _ ▸ h1 : _ ∧ _).1 h2
def zk_pr (Ts : List Cond) (Y : zm_Y) (cl : List vw_C) (Zs : zk_Zs) (D : va_G) (tys : List (ClassId × FieldType)) (ad : Nat × Nat → Nat) (cA : Nat → ClassId) (A : Nat → Prop) (M : zm_M) (U : State) : Prop := va_P D cl (zc_w Y ad cA M) U.heap ∧ va_K D cl tys U ∧ zk_cs Y Zs ad A U U.heap ∧ zk_tb Ts U
def zk_po (Y : zm_Y) (cl : List vw_C) (D : va_G) (ad : Nat × Nat → Nat) (cA : Nat → ClassId) (A : Nat → Prop) (v : Option zm_V) (M : zm_M) : Array Value → State → Outcome → State → Prop := fun _ st oc t => oc = .returned (v.map (zc_v ad)) ∧ (∀ w ∈ v, zv_ok Y w) ∧ va_P D cl (zc_w Y ad cA M) t.heap ∧ va_F A st t
def zk_me (Ts : List Cond) (Y : zm_Y) (cl : List vw_C) (Zs : zk_Zs) (l : Launch) (d : Nat × Nat) (y : MethodName) (cc : ByteArray) (maxL : Nat) (ret : Option FieldType) {T : Type} (out : T → Option zm_V × zm_M) (F : List zm_V → zm_M → Option T) : Prop :=
  ∀ (D : va_G) (tys : List (ClassId × FieldType)) (ad : Nat × Nat → Nat) (cA : Nat → ClassId) (A : Nat → Prop), zg_ok Y cl tys ad cA A → ∀ (av : List zm_V) (M : zm_M) (t : T), (∀ v ∈ av, zv_ok Y v) → F av M = some t →
    Met l y [Cond.code y cc maxL ret] (zk_rm d) (va_Pc (av.map (zc_v ad)) (zk_pr Ts Y cl Zs D tys ad cA A M)) (zk_po Y cl D ad cA A (out t).1 (out t).2) 0 0 A
def zi_al (Ts : List Cond) (Y : zm_Y) (cl : List vw_C) (Zs : zk_Zs) (l : Launch) (d : Nat × Nat) (own : String) (cc : ByteArray) (nL : Nat) (i : Nat) (F : Option zm_F) : Prop :=
  ∀ (p : Program) (e : Env) (s : State) (m : MethodId) (args : Array Value) (below : List Frame) (meth : Method) (c : Code) (Q : State → Prop) (D : va_G) (tys : List (ClassId × FieldType)) (ad : Nat × Nat → Nat) (cA : Nat → ClassId) (A : Nat → Prop), CallFix p m c cc nL s args Ts own → zg_ok Y cl tys ad cA A → va_K D cl tys s → zk_cs Y Zs ad A s s.heap → zk_tb Ts s →
    zi_ok p l e (zk_rm d) s m args below meth c 0 0 Q cc nL D cl A ad cA Y i F
/-- how a method ends -/
def zr_ok (ret : Option FieldType) {T : Type} (rt : Option zm_V → zm_M → Option T) (out : T → Option zm_V × zm_M) : Prop := ∀ v M t, rt v M = some t → out t = (v, M) ∧ ((ret = none ∧ v = none) ∨ (ret = some .int ∧ ∃ x, v = some (.inl x)) ∨ (ret = some .boolean ∧ ∃ x, v = some (.inl x) ∧ (x = 0 ∨ x = 1)) ∨ (∃ C, ret = some (.object C) ∧ ∃ r, v = some (.inr r)))
def zr_i (v : Option zm_V) (M : zm_M) : Option (Int32 × zm_M) := match v with
  | some (.inl x) => some (x, M)
  | _ => none
def zr_z (v : Option zm_V) (M : zm_M) : Option (Int32 × zm_M) := match v with
  | some (.inl x) => if x = 0 ∨ x = 1 then some (x, M) else none
  | _ => none
def zr_v (v : Option zm_V) (M : zm_M) : Option zm_M := match v with
  | none => some M
  | _ => none
def zr_r (v : Option zm_V) (M : zm_M) : Option ((Nat × Nat) × zm_M) := match v with
  | some (.inr r) => some (r, M)
  | _ => none
def zo_i (t : Int32 × zm_M) : Option zm_V × zm_M := (some (.inl t.1), t.2)
def zo_v (M : zm_M) : Option zm_V × zm_M := (none, M)
def zo_r (t : (Nat × Nat) × zm_M) : Option zm_V × zm_M := (some (.inr t.1), t.2)
theorem zr_i_ok : zr_ok (some .int) zr_i zo_i := by
  intro v M t h
  unfold zr_i at h
  split at h
  · cases h; exact ⟨rfl, Or.inr (Or.inl ⟨rfl, _, rfl⟩)⟩
  · cases h
theorem zr_z_ok : zr_ok (some .boolean) zr_z zo_i := by
  intro v M t h
  unfold zr_z at h
  split at h
  · split at h
    · next hx => cases h; exact ⟨rfl, Or.inr (Or.inr (Or.inl ⟨rfl, _, rfl, hx⟩))⟩
    · cases h
  · cases h
theorem zr_v_ok : zr_ok none zr_v zo_v := by
  intro v M t h
  unfold zr_v at h
  split at h
  · cases h; exact ⟨rfl, Or.inl ⟨rfl, rfl⟩⟩
  · cases h
theorem zr_r_ok (C : String) : zr_ok (some (.object C)) zr_r zo_r := by
  intro v M t h
  unfold zr_r at h
  split at h
  · cases h; exact ⟨rfl, Or.inr (Or.inr (Or.inr ⟨C, rfl, _, rfl⟩))⟩
  · cases h
def zm_lo (av : List zm_V) (nL : Nat) : zm_L := av.map some ++ List.replicate (nL - av.length) none
theorem zk_ar (ad : Nat × Nat → Nat) : ∀ (av : List zm_V) (k i : Nat) (v : zm_V), av[i]? = some v → (k + i, zc_v ad v) ∈ lv_args k (av.map (zc_v ad))
  | [], k, i, v, h => by simp at h
  | a :: av, k, 0, v, h => by
    simp at h
    subst h
    exact List.mem_cons_self
  | a :: av, k, i + 1, v, h => by
    have h1 : av[i]? = some v := by simpa using h
    have h2 := zk_ar ad av (k + 1) i v h1
    refine List.mem_cons_of_mem _ ?_
    rw [zc_v_cat, if_neg (by decide)]
    rw [show k + (i + 1) = k + 1 + i by omega]
    exact h2
theorem zk_sl (ad : Nat × Nat → Nat) (av : List zm_V) : (lg_sl (av.map (zc_v ad))).length = av.length := by
  induction av with
  | nil => rfl
  | cons a av ih =>
    unfold lg_sl at ih ⊢
    rw [List.map_cons, List.flatMap_cons, List.length_append, ih, zc_v_cat, if_neg (by decide)]
    simp [Nat.add_comm]
theorem zk_en {Y : zm_Y} {ad : Nat × Nat → Nat} {av : List zm_V} {nL : Nat} (hle : av.length ≤ nL) (hv : ∀ v ∈ av, zv_ok Y v) {ls : Array Slot} (h : lv_has ls nL (lv_args 0 (av.map (zc_v ad)))) : zl_ok Y ad ls nL (zm_lo av nL) := by
  refine ⟨by simp [zm_lo]; omega, h.1, h.2.1, fun i v hi => ?_⟩
  have hlt : i < av.length := by
    rcases Nat.lt_or_ge i av.length with q | q
    · exact q
    · unfold zm_lo at hi
      rw [List.getElem?_append_right (by simpa using q)] at hi
      have := List.mem_of_getElem? hi
      simp at this
  unfold zm_lo at hi
  rw [List.getElem?_append_left (by simpa using hlt), List.getElem?_map] at hi
  cases ha : av[i]? with
  | none => rw [ha] at hi; cases hi
  | some w =>
    rw [ha] at hi
    cases hi
    have h2 := zk_ar ad av 0 i v ha
    rw [Nat.zero_add] at h2
    exact ⟨h.2.2 _ h2, hv v (List.mem_of_getElem? ha)⟩
set_option maxHeartbeats 4000000 in
theorem zk_run {Ts : List Cond} {Y : zm_Y} {cl : List vw_C} {Zs : zk_Zs} {l : Launch} {d : Nat × Nat} {y : MethodName} {cc : ByteArray} {maxL : Nat} {ret : Option FieldType} {T : Type} {out : T → Option zm_V × zm_M} {rt : Option zm_V → zm_M → Option T} {code : zm_C} {X : zm_X} {F : List zm_V → zm_M → Option T} (N : Nat)
    (hTs : ∀ w ∈ Ts, zk_nw w = true) (hy : plainName y.cls = true) (hen : ∀ q ∈ code, zm_en cc q) (hF : zf_ok Y cl Ts y.cls X.1) (hC : ∀ i v, X.2.1 i = some v → Cond.constant y.cls i v ∈ Ts)
    (hZ : ∀ i q, X.2.2.1 i = some q → zy_ok Y q ∧ ∃ C n d, (C, n, d, q) ∈ Zs ∧ (Cond.fieldLink y.cls i C n d ∈ Ts ∨ ∃ host, Cond.fieldLinkNest y.cls i C n d host ∈ Ts))
    (hI : ∀ i, zi_al Ts Y cl Zs l d y.cls cc maxL i (X.2.2.2 i)) (hr : zr_ok ret rt out) (hFe : ∀ av M t, F av M = some t → av.length ≤ maxL ∧ zm_rn Y X rt code N 0 (zm_lo av maxL) [] M = some t) : zk_me Ts Y cl Zs l d y cc maxL ret out F := by
  intro D tys ad cA A hG av M t hv hF0
  obtain ⟨hle, hrun⟩ := hFe av M t hF0
  refine Met.ofW (cc := cc) (maxL := maxL) (ret := ret) hy rfl ?_
  intro p e s m args below meth c s₁ B hml hpre
  obtain ⟨rfl, hP, hK, hcs, htb⟩ := hpre
  have hx := B.exec
  have hb := B.bytes
  have hrt := B.returns
  have hlocks := B.notSynchronized
  have hown : s.vm.findClass y.cls = some m.cls := findClass_of_methodNamed B.named
  have hts := zk_tb.use hTs (av.map (zc_v ad)).toArray htb
  have hl := lv_entry (av.map (zc_v ad)) (n := maxL) (by rw [zk_sl]; exact hle)
  rw [lg_entry_eq]
  generalize (lg_sl (av.map (zc_v ad)) ++ List.replicate (maxL - (lg_sl (av.map (zc_v ad))).length) Slot.unset).toArray = ls at hl ⊢
  refine zm_rn_ok (nL := maxL) (t := t) hx hb hown hts hG hK hF hC hcs.1 (fun i q hq => ?_) (fun i => hI i p e s m _ below meth c _ D tys ad cA A ⟨hx, hb, hml, hown, hts⟩ hG hK hcs htb) ?_ hen N 0 (zm_lo av maxL) [] M s.heap [] ls hrun (zk_en hle hv hl) (fun v hv => by cases hv) ⟨hP, va_S.rf⟩
  · obtain ⟨h1, C, n, d', h2, h3⟩ := hZ i q hq
    exact ⟨h1, C, n, d', hcs.2 _ h2, h3⟩
  · intro v M' H' locs' pc' ls' hrv hvv hP' hdc
    obtain ⟨hout, hcase⟩ := hr v M' t hrv
    have hq : ∀ t' : State, t'.heap = H' → s.WarmedH t'.vm → zk_po Y cl D ad cA A (out t).1 (out t).2 (av.map (zc_v ad)).toArray s (.returned (v.map (zc_v ad))) t' := fun t' ht _ => by
      rw [hout]
      exact ⟨rfl, hvv, by rw [ht]; exact hP'.1, hP'.2.F ht⟩
    rcases hcase with ⟨h1, rfl⟩ | ⟨h1, x, rfl⟩ | ⟨h1, x, rfl, hx01⟩ | ⟨C, h1, r, rfl⟩
    · exact W.vret hx hb (hrt.trans h1) hq hP'.2.2.2 hdc
    · exact W.iret hx hb (hrt.trans h1) hq hP'.2.2.2 hdc
    · exact W.zret hx hb (hrt.trans h1) (by rcases hx01 with rfl | rfl <;> rfl) hq hP'.2.2.2 hdc
    · exact W.aret hx hb (hrt.trans h1) (Or.inl ⟨C, rfl⟩) (Or.inr ⟨_, rfl⟩) hq hP'.2.2.2 hdc
end
section
/-! CALLS: a contract gives the rule of a call -/
def zl_up {α : Type} : List (Nat × α) → Nat → Option α
  | [], _ => none
  | (j, a) :: L, i => match Nat.beq j i with
    | true => some a
    | false => zl_up L i
theorem zl_up_mem {α : Type} : ∀ {L : List (Nat × α)} {i : Nat} {a : α}, zl_up L i = some a → (i, a) ∈ L
  | [], i, a, h => by cases h
  | (j, b) :: L, i, a, h => by
    unfold zl_up at h
    split at h
    · next hj =>
      cases h
      rw [Nat.eq_of_beq_eq_true hj]
      exact List.mem_cons_self
    · exact List.mem_cons_of_mem _ (zl_up_mem h)
/-- a method of n arguments; an instance method's receiver is of class ci -/
def zm_fs {T : Type} (n : Nat) (F : List zm_V → zm_M → Option T) (av : List zm_V) (M : zm_M) : Option T := match Nat.beq av.length n with
  | true => F av M
  | false => none
def zm_fv {T : Type} (Y : zm_Y) (ci n : Nat) (F : List zm_V → zm_M → Option T) (av : List zm_V) (M : zm_M) : Option T := match av with
  | .inr r :: as => match Nat.beq as.length n && (Nat.beq (zy_k Y r.1) 0 && Nat.beq (zy_c Y r.1) ci) with
    | true => F (.inr r :: as) M
    | false => none
  | _ => none
theorem zm_fs_spec {T : Type} {n : Nat} {F : List zm_V → zm_M → Option T} {av : List zm_V} {M : zm_M} {t : T} (h : zm_fs n F av M = some t) : av.length = n ∧ F av M = some t := by
  unfold zm_fs at h
  split at h
  · next hn => exact ⟨Nat.eq_of_beq_eq_true hn, h⟩
  · cases h
theorem zm_fv_spec {T : Type} {Y : zm_Y} {ci n : Nat} {F : List zm_V → zm_M → Option T} {av : List zm_V} {M : zm_M} {t : T} (h : zm_fv Y ci n F av M = some t) : ∃ r as, av = .inr r :: as ∧ as.length = n ∧ zy_k Y r.1 = 0 ∧ zy_c Y r.1 = ci ∧ F av M = some t := by
  unfold zm_fv at h
  split at h
  · next r as =>
    split at h
    · next hc =>
      rw [Bool.and_eq_true, Bool.and_eq_true, Nat.beq_eq, Nat.beq_eq, Nat.beq_eq] at hc
      exact ⟨r, as, rfl, hc.1, hc.2.1, hc.2.2, h⟩
    · cases h
  · cases h
section ZC
variable {p : Program} {l : Launch} {e : Env} {R : Room} {s : State} {m : MethodId} {args : Array Value} {below : List Frame} {meth : Method} {c : Code} {H : Heap} {locs : List Loc} {Q : State → Prop}
variable {cc : ByteArray} {pc nL : Nat} {ls : Array Slot} {rest st0 : List Value} {D : va_G} {cl : List vw_C} {tys : List (ClassId × FieldType)} {A : Nat → Prop} {ad : Nat × Nat → Nat} {cA : Nat → ClassId} {Y : zm_Y} {own : String} {Ts : List Cond} {M : zm_M} {Zs : zk_Zs}
theorem zk_call {v : Option zm_V} {M' : zm_M} {a : Array Value} (hr : va_Run p l e R s m args below meth c H locs 0 0 0 0 (F0 m pc ls st0) rest (zk_po Y cl D ad cA A v M' a) A) (hS : va_S A s.heap H locs)
    (kk : ∀ H1 locs1, (∀ w ∈ v, zv_ok Y w) → zs_at D cl Y ad cA A s.heap M' H1 locs1 → W p l e R s m args below meth c H1 locs1 0 0 Q (F0 m (pc + 3) ls ((v.map (zc_v ad)).toList ++ rest))) : W p l e R s m args below meth c H locs 0 0 Q (F0 m pc ls st0) := by
  intro T hT X
  obtain ⟨v', st₀, t, T', L, h0, X', hL, e1, e2, ⟨hv, hvv, hP', hz, hk⟩, st⟩ := hr T hT X
  cases hv
  rw [h0] at hz hk
  obtain ⟨t2, a1, b1⟩ := kk T'.heap (locs ++ L) hvv ⟨by rw [e1]; exact hP', Nat.le_trans hS.1 (by rw [e1]; exact hz), fun q h1 h2 => by rw [e1, hk q (Nat.lt_of_lt_of_le h1 hS.1) h2]; exact hS.2.1 q h1 h2, fun q hq => by
      rcases List.mem_append.mp hq with h | h
      · exact hS.2.2 q h
      · exact hL q h⟩ T' rfl X'
  exact ⟨t2, st t2 a1, b1⟩
theorem zk_blind (hTs : ∀ w ∈ Ts, zk_nw w = true) (av : List Value) : FrameBlind (va_Pc av (zk_pr Ts Y cl Zs D tys ad cA A M)) := by
  intro a U g mk h
  obtain ⟨h0, h1, h2, h3, h4⟩ := h
  refine ⟨h0, h1, va_K.moved (u := U) (U := U.calling g mk a) (Vm.Alike.refl U.vm) h2, zk_cs.moved (u := U) (U := U.calling g mk a) (Vm.Alike.refl U.vm) h3, fun w hw => ?_⟩
  have hw1 := hTs w hw
  have ho : w.onTables = true := by
    unfold zk_nw at hw1
    split at hw1
    · rfl
    · rfl
    · exact (Bool.and_eq_true _ _ ▸ hw1 : _ ∧ _).1
  exact va_Nw.same ho (rfl : U.vm = (U.calling g mk a).vm) (h4 w hw)
theorem zk_pre (hTs : ∀ w ∈ Ts, zk_nw w = true) (hK : va_K D cl tys s) (hcs : zk_cs Y Zs ad A s s.heap) (htb : zk_tb Ts s) (hP : zs_at D cl Y ad cA A s.heap M H locs) {U : State} (hU : U.heap = H) (hW : s.WarmedH U.vm) : zk_pr Ts Y cl Zs D tys ad cA A M U := by
  refine ⟨by rw [hU]; exact hP.1, va_K.moved hW.alike hK, ?_, zk_tb.warm hTs hW htb⟩
  rw [hU]
  exact (hcs.moved hW.alike).kept hP.2.2.1
theorem zk_sum (ad : Nat × Nat → Nat) (st : List zm_V) : ((st.map (zc_v ad)).map fun v => v.category).sum = st.length := by
  induction st with
  | nil => rfl
  | cons a st ih => simp only [List.map_cons, List.sum_cons, ih, zc_v_cat, List.length_cons]; omega
/-- what a call's rule is for, before the kinds of answers part -/
def zj_ok (p : Program) (l : Launch) (e : Env) (R : Room) (s : State) (m : MethodId) (args : Array Value) (below : List Frame) (meth : Method) (c : Code) (Q : State → Prop) (cc : ByteArray) (nL : Nat) (D : va_G) (cl : List vw_C) (A : Nat → Prop) (ad : Nat × Nat → Nat) (cA : Nat → ClassId) (Y : zm_Y) (i n : Nat) {T : Type} (out : T → Option zm_V × zm_M) (f : List zm_V → zm_M → Option T) : Prop :=
  ∀ (pc : Nat) (ls : Array Slot) (av rs : List zm_V) (M : zm_M) (H : Heap) (locs : List Loc) (ins : Jvm.ClassFile.Instr) (q : T), (ins = .invokevirtual i ∨ ins = .invokestatic i) → decode cc pc = .ok (ins, 3) → ls.size = nL → (∀ v ∈ av, zv_ok Y v) → rs.length ≤ 8 → av.length = n → zs_at D cl Y ad cA A s.heap M H locs → f av M = some q →
    (∀ (H' : Heap) (locs' : List Loc), (∀ w ∈ (out q).1, zv_ok Y w) → zs_at D cl Y ad cA A s.heap (out q).2 H' locs' → W p l e R s m args below meth c H' locs' 0 0 Q (F0 m (pc + 3) ls (((out q).1.toList ++ rs).map (zc_v ad)))) →
    W p l e R s m args below meth c H locs 0 0 Q (F0 m pc ls ((av.reverse ++ rs).map (zc_v ad)))
theorem zj_split {st : List zm_V} {n : Nat} (h : n ≤ st.length) : (st.take n).reverse.reverse ++ st.drop n = st ∧ (st.take n).reverse.length = n := by
  rw [List.reverse_reverse, List.take_append_drop, List.length_reverse, List.length_take]
  exact ⟨rfl, by omega⟩
theorem zj_i {i n : Nat} {f : List zm_V → zm_M → Option (Int32 × zm_M)} (h : zj_ok p l e R s m args below meth c Q cc nL D cl A ad cA Y i n zo_i f) : zi_ok p l e R s m args below meth c 0 0 Q cc nL D cl A ad cA Y i (some (n, .inl f)) := by
  intro pc ls st M H locs ins hi hd hls hst hP T t K hk kk
  unfold zm_iv at hk
  dsimp only at hk
  split at hk
  · next hc =>
    rw [Bool.and_eq_true] at hc
    have h1 := Nat.le_of_ble_eq_true hc.1
    have h2 := Nat.le_of_ble_eq_true hc.2
    obtain ⟨q, hq, hk⟩ := Option.bind_eq_some_iff.mp hk
    obtain ⟨e1, e2⟩ := zj_split h1
    have := h pc ls (st.take n).reverse (st.drop n) M H locs ins q hi hd hls (fun v hv => hst v (List.mem_of_mem_take (List.mem_reverse.mp hv))) (by rw [List.length_drop]; omega) e2 hP hq (fun H' locs' _ hP' => kk _ _ H' locs' hk (fun v hv => by
      rcases List.mem_cons.mp hv with rfl | hv
      · exact trivial
      · exact hst v (List.mem_of_mem_drop hv)) hP')
    rw [e1] at this
    exact this
  · cases hk
theorem zj_v {i n : Nat} {f : List zm_V → zm_M → Option zm_M} (h : zj_ok p l e R s m args below meth c Q cc nL D cl A ad cA Y i n zo_v f) : zi_ok p l e R s m args below meth c 0 0 Q cc nL D cl A ad cA Y i (some (n, .inr (.inl f))) := by
  intro pc ls st M H locs ins hi hd hls hst hP T t K hk kk
  unfold zm_iv at hk
  dsimp only at hk
  split at hk
  · next hc =>
    rw [Bool.and_eq_true] at hc
    have h1 := Nat.le_of_ble_eq_true hc.1
    have h2 := Nat.le_of_ble_eq_true hc.2
    obtain ⟨q, hq, hk⟩ := Option.bind_eq_some_iff.mp hk
    obtain ⟨e1, e2⟩ := zj_split h1
    have := h pc ls (st.take n).reverse (st.drop n) M H locs ins q hi hd hls (fun v hv => hst v (List.mem_of_mem_take (List.mem_reverse.mp hv))) (by rw [List.length_drop]; omega) e2 hP hq (fun H' locs' _ hP' => kk _ _ H' locs' hk (fun v hv => hst v (List.mem_of_mem_drop hv)) hP')
    rw [e1] at this
    exact this
  · cases hk
theorem zj_r {i n : Nat} {f : List zm_V → zm_M → Option ((Nat × Nat) × zm_M)} (h : zj_ok p l e R s m args below meth c Q cc nL D cl A ad cA Y i n zo_r f) : zi_ok p l e R s m args below meth c 0 0 Q cc nL D cl A ad cA Y i (some (n, .inr (.inr f))) := by
  intro pc ls st M H locs ins hi hd hls hst hP T t K hk kk
  unfold zm_iv at hk
  dsimp only at hk
  split at hk
  · next hc =>
    rw [Bool.and_eq_true] at hc
    have h1 := Nat.le_of_ble_eq_true hc.1
    have h2 := Nat.le_of_ble_eq_true hc.2
    obtain ⟨q, hq, hk⟩ := Option.bind_eq_some_iff.mp hk
    obtain ⟨e1, e2⟩ := zj_split h1
    have := h pc ls (st.take n).reverse (st.drop n) M H locs ins q hi hd hls (fun v hv => hst v (List.mem_of_mem_take (List.mem_reverse.mp hv))) (by rw [List.length_drop]; omega) e2 hP hq (fun H' locs' hv' hP' => kk _ _ H' locs' hk (fun v hv => by
      rcases List.mem_cons.mp hv with rfl | hv
      · exact hv' _ rfl
      · exact hst v (List.mem_of_mem_drop hv)) hP')
    rw [e1] at this
    exact this
  · cases hk
end ZC
end
