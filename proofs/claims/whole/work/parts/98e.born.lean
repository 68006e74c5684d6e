/-! THE SECOND ABSTRACT MACHINE: constructors, over a world that grows. A reference is (its cell's number, 0). -/
abbrev yb_C : Type := (Nat × List (Option zm_V)) ⊕ (Nat × Nat × ((Nat → Int32) ⊕ (Nat → Option Nat)))
abbrev yb_W : Type := List yb_C
/-- the world, how many cells and slots are new -/
abbrev yb_M : Type := yb_W × Nat × Nat
/-- a constructor: how many arguments, how many cells and slots it makes, what it does -/
abbrev yb_F : Type := Nat × Nat × Nat × (List zm_V → yb_W → Option yb_W)
/-- links: fields, classes, constructors ('none': Object's) -/
abbrev yb_X : Type := (Nat → Option (Nat × Nat)) × (Nat → Option Nat) × (Nat → Option (Option yb_F))
def yb_ty : Jvm.ClassFile.ArrayType → Option Nat
  | .int => some 0
  | .boolean => some 1
  | _ => none
def yb_ml (lm : Nat × Nat) (c s : Nat) : Bool := Nat.ble c lm.1 && Nat.ble s lm.2
/-- one instruction; K goes on, ret ends -/
def yb_ex {T : Type} (df : Nat → List (Option zm_V)) (fr : Nat) (lm : Nat × Nat) (X : yb_X) (ret : yb_M → Option T) (K : Nat → zm_L → List zm_V → yb_M → Option T) (nx : Nat) (ts : List Nat) (lo : zm_L) (st : List zm_V) (w : yb_M) (ins : Jvm.ClassFile.Instr) : Option T := match ins with
  | .iconst n => K nx lo (.inl (Int32.ofInt n) :: st) w
  | .bipush n => K nx lo (.inl (Int8.ofInt n).toInt32 :: st) w
  | .sipush n => K nx lo (.inl (Int16.ofInt n).toInt32 :: st) w
  | .iload i => zm_li lo i fun v => K nx lo (.inl v :: st) w
  | .iload_n i => zm_li lo i fun v => K nx lo (.inl v :: st) w
  | .aload i => zm_la lo i fun v => K nx lo (.inr v :: st) w
  | .aload_n i => zm_la lo i fun v => K nx lo (.inr v :: st) w
  | .istore i => zm_b1 st fun x r => zm_sl lo i (.inl x) fun lo => K nx lo r w
  | .istore_n i => zm_b1 st fun x r => zm_sl lo i (.inl x) fun lo => K nx lo r w
  | .astore_n i => match st with
    | .inr x :: r => zm_sl lo i (.inr x) fun lo => K nx lo r w
    | _ => none
  | .iinc i n => zm_li lo i fun x => zm_sl lo i (.inl (x + Int32.ofInt n)) fun lo => K nx lo st w
  | .ior => zm_b2 st fun x y r => K nx lo (.inl (x ||| y) :: r) w
  | .ishl => zm_b2 st fun x y r => K nx lo (.inl (x <<< (y &&& 31)) :: r) w
  | .dup => match st with
    | v :: r => K nx lo (v :: v :: r) w
    | _ => none
  | .goto _ => zm_t0 ts fun t => K t lo st w
  | .if_icmp c _ => zm_b2 st fun x y r => zm_t0 ts fun t => zm_cm c x y (K t lo r w) (K nx lo r w)
  | .new i => match X.2.1 i with
    | some ci => match yb_ml lm (w.2.1 + 1) (w.2.2 + (df ci).length) with
      | true => K nx lo (.inr (w.1.length, 0) :: st) (w.1 ++ [.inl (ci, df ci)], w.2.1 + 1, w.2.2 + (df ci).length)
      | false => none
    | none => none
  | .newarray a => match st with
    | .inl n :: r => match yb_ty a with
      | some ty => if n < 0 ∨ 100000 ≤ n.toNatClampNeg then none else match yb_ml lm (w.2.1 + 1) (w.2.2 + n.toNatClampNeg) with
        | true => K nx lo (.inr (w.1.length, 0) :: r) (w.1 ++ [.inr (ty, n.toNatClampNeg, .inl fun _ => 0)], w.2.1 + 1, w.2.2 + n.toNatClampNeg)
        | false => none
      | none => none
    | _ => none
  | .anewarray i => match st with
    | .inl n :: r => match X.2.1 i with
      | some ci => if n < 0 ∨ 100000 ≤ n.toNatClampNeg then none else match Nat.beq ci fr && yb_ml lm (w.2.1 + 1) (w.2.2 + n.toNatClampNeg) with
        | true => K nx lo (.inr (w.1.length, 0) :: r) (w.1 ++ [.inr (2, n.toNatClampNeg, .inr fun _ => none)], w.2.1 + 1, w.2.2 + n.toNatClampNeg)
        | false => none
      | none => none
    | _ => none
  | .putfield i => match st with
    | .inr x :: .inr q :: r => match X.1 i with
      | some (c, j) => match w.1[q.1]? with
        | some (.inl (ci, fs)) => match Nat.beq ci c && Nat.blt j fs.length with
          | true => K nx lo r (w.1.set q.1 (.inl (ci, fs.set j (some (.inr x)))), w.2)
          | false => none
        | _ => none
      | none => none
    | _ => none
  | .getfield i => match st with
    | .inr q :: r => match X.1 i with
      | some (c, j) => match w.1[q.1]? with
        | some (.inl (ci, fs)) => match Nat.beq ci c with
          | true => match fs[j]? with
            | some (some v) => K nx lo (v :: r) w
            | _ => none
          | false => none
        | _ => none
      | none => none
    | _ => none
  | .iastore => match st with
    | .inl x :: .inl i :: .inr q :: r => match w.1[q.1]? with
      | some (.inr (0, n, .inl f)) => if i < 0 ∨ n ≤ i.toNatClampNeg then none else K nx lo r (w.1.set q.1 (.inr (0, n, .inl (upd f i.toNatClampNeg x))), w.2)
      | _ => none
    | _ => none
  | .aastore => match st with
    | .inr x :: .inl i :: .inr q :: r => match w.1[q.1]? with
      | some (.inr (2, n, .inr f)) => match w.1[x.1]? with
        | some (.inl (ci, _)) => match Nat.beq ci fr with
          | true => if i < 0 ∨ n ≤ i.toNatClampNeg then none else K nx lo r (w.1.set q.1 (.inr (2, n, .inr (va_up f i.toNatClampNeg (some x.1)))), w.2)
          | false => none
        | _ => none
      | _ => none
    | _ => none
  | .invokespecial i => match X.2.2 i with
    | some none => match st with
      | .inr _ :: r => match Nat.ble r.length 8 with
        | true => K nx lo r w
        | false => none
      | _ => none
    | some (some (n, mc, ms, f)) => match (Nat.ble (n + 1) st.length && Nat.ble st.length (n + 9)) && yb_ml lm (w.2.1 + mc) (w.2.2 + ms) with
      | true => (f (st.take (n + 1)).reverse w.1).bind fun w' => K nx lo (st.drop (n + 1)) (w', w.2.1 + mc, w.2.2 + ms)
      | false => none
    | none => none
  | .return_ => match st with
    | [] => ret w
    | _ => none
  | _ => none
def yb_go {T : Type} (df : Nat → List (Option zm_V)) (fr : Nat) (lm : Nat × Nat) (X : yb_X) (ret : yb_M → Option T) (back : Nat → zm_L → List zm_V → yb_M → Option T) : zm_C → Nat → zm_L → List zm_V → yb_M → Option T
  | [], _, _, _, _ => none
  | (q, ins, nx, ts) :: code, pc, lo, st, w => match Nat.beq q pc with
    | true => yb_ex df fr lm X ret (fun pc' lo st w => match Nat.ble pc' q with
      | true => back pc' lo st w
      | false => yb_go df fr lm X ret back code pc' lo st w) nx ts lo st w ins
    | false => yb_go df fr lm X ret back code pc lo st w
def yb_rn {T : Type} (df : Nat → List (Option zm_V)) (fr : Nat) (lm : Nat × Nat) (X : yb_X) (ret : yb_M → Option T) (code : zm_C) : Nat → Nat → zm_L → List zm_V → yb_M → Option T
  | 0, _, _, _, _ => none
  | n + 1, pc, lo, st, w => yb_go df fr lm X ret (yb_rn df fr lm X ret code n) code pc lo st w
/-! what the cells are -/
def yb_Y (n : Nat) : zm_Y := (fun _ => 0, fun _ => 0, fun _ => 0, fun _ _ _ => none, fun _ _ _ => (0, 0), fun _ => 1, n, fun _ _ => 0, fun _ _ => 0)
def yb_a (ad : List Nat) : Nat × Nat → Nat := fun r => ad.getD r.1 0
def yb_f (ad : List Nat) : Option zm_V → Value
  | none => .null
  | some v => zc_v (yb_a ad) v
def yb_e (tc : Nat → ClassId) (ad : List Nat) : yb_C → va_E
  | .inl (ci, fs) => .inr (ci, fs.map (yb_f ad))
  | .inr (t, n, .inl f) => .inl (tc t, n, .inl f)
  | .inr (t, n, .inr f) => .inl (tc t, n, .inr (.inr (.inr (.inr fun j => (f j).map fun k => ad.getD k 0))))
def yb_w (tc : Nat → ClassId) (ad : List Nat) (ws : yb_W) : va_W := List.zipWith (fun a c => (a, yb_e tc ad c)) ad ws
def yb_ok (n : Nat) : yb_C → Prop
  | .inl (_, fs) => ∀ v, some v ∈ fs → zv_ok (yb_Y n) v
  | .inr (_, _, .inl _) => True
  | .inr (_, _, .inr f) => ∀ j k, f j = some k → k < n
def yb_wf (ws : yb_W) : Prop := ∀ c ∈ ws, yb_ok ws.length c
theorem yb_zy {n : Nat} {r : Nat × Nat} : zy_ok (yb_Y n) r ↔ r.1 < n ∧ r.2 = 0 := by
  unfold zy_ok
  constructor
  · rintro (h | ⟨h1, h2⟩)
    · cases h
    · have h2 : r.2 < 1 := h2
      exact ⟨h1, by omega⟩
  · rintro ⟨h1, h2⟩
    refine Or.inr ⟨h1, ?_⟩
    show r.2 < 1
    omega
theorem yb_mono {n k : Nat} (h : n ≤ k) {v : zm_V} (hv : zv_ok (yb_Y n) v) : zv_ok (yb_Y k) v := by
  cases v with
  | inl x => trivial
  | inr r =>
    have hv : zy_ok (yb_Y n) r := hv
    show zy_ok (yb_Y k) r
    rw [yb_zy] at hv ⊢
    exact ⟨by omega, hv.2⟩
theorem yb_gd {ad L : List Nat} {k : Nat} (h : k < ad.length) : (ad ++ L).getD k 0 = ad.getD k 0 := by
  rw [List.getD_eq_getElem?_getD, List.getElem?_append_left h, List.getD_eq_getElem?_getD]
theorem yb_cv {ad L : List Nat} {v : zm_V} (hv : zv_ok (yb_Y ad.length) v) : zc_v (yb_a (ad ++ L)) v = zc_v (yb_a ad) v := by
  cases v with
  | inl x => rfl
  | inr r =>
    have hv : zy_ok (yb_Y ad.length) r := hv
    rw [yb_zy] at hv
    show Value.ref ((ad ++ L).getD r.1 0) = Value.ref (ad.getD r.1 0)
    rw [yb_gd hv.1]
theorem yb_e_app {tc : Nat → ClassId} {ad L : List Nat} {c : yb_C} (h : yb_ok ad.length c) : yb_e tc (ad ++ L) c = yb_e tc ad c := by
  match c, h with
  | .inl (ci, fs), h =>
    have : fs.map (yb_f (ad ++ L)) = fs.map (yb_f ad) := by
      apply List.map_congr_left
      intro o ho
      cases o with
      | none => rfl
      | some v => exact yb_cv (h v ho)
    show (Sum.inr (ci, fs.map (yb_f (ad ++ L))) : va_E) = Sum.inr (ci, fs.map (yb_f ad))
    rw [this]
  | .inr (t, n, .inl f), h => rfl
  | .inr (t, n, .inr f), h =>
    have : (fun j => (f j).map fun k => (ad ++ L).getD k 0) = fun j => (f j).map fun k => ad.getD k 0 := by
      funext j
      cases hj : f j with
      | none => rfl
      | some k =>
        show some ((ad ++ L).getD k 0) = some (ad.getD k 0)
        rw [yb_gd (h j k hj)]
    show (Sum.inl (tc t, n, .inr (.inr (.inr (.inr fun j => (f j).map fun k => (ad ++ L).getD k 0)))) : va_E) = Sum.inl (tc t, n, .inr (.inr (.inr (.inr fun j => (f j).map fun k => ad.getD k 0))))
    rw [this]
theorem yb_ok_mono {n k : Nat} (h : n ≤ k) {c : yb_C} (hc : yb_ok n c) : yb_ok k c := by
  match c, hc with
  | .inl (ci, fs), hc => exact fun v hv => yb_mono h (hc v hv)
  | .inr (t, m, .inl f), hc => trivial
  | .inr (t, m, .inr f), hc => exact fun j q hq => Nat.lt_of_lt_of_le (hc j q hq) h
theorem yb_w_get {tc : Nat → ClassId} {ad : List Nat} {ws : yb_W} (hl : ad.length = ws.length) (k : Nat) : (yb_w tc ad ws)[k]? = (ws[k]?).map fun c => (ad.getD k 0, yb_e tc ad c) := by
  unfold yb_w
  rw [List.getElem?_zipWith, List.getD_eq_getElem?_getD]
  by_cases h : k < ws.length
  · rw [List.getElem?_eq_getElem h, List.getElem?_eq_getElem (show k < ad.length by omega)]
    rfl
  · rw [List.getElem?_eq_none (show ws.length ≤ k by omega), List.getElem?_eq_none (show ad.length ≤ k by omega)]
    rfl
theorem yb_w_len {tc : Nat → ClassId} {ad : List Nat} {ws : yb_W} (hl : ad.length = ws.length) : (yb_w tc ad ws).length = ws.length := by
  unfold yb_w
  rw [List.length_zipWith]
  omega
theorem yb_w_push {tc : Nat → ClassId} {ad : List Nat} {ws : yb_W} {q : Nat} {c : yb_C} (hl : ad.length = ws.length) (hw : yb_wf ws) : yb_w tc (ad ++ [q]) (ws ++ [c]) = yb_w tc ad ws ++ [(q, yb_e tc (ad ++ [q]) c)] := by
  apply List.ext_getElem?
  intro k
  rw [yb_w_get (by simp [hl])]
  by_cases h : k < ws.length
  · rw [List.getElem?_append_left h, List.getElem?_append_left (by rw [yb_w_len hl]; exact h), yb_w_get hl, List.getElem?_eq_getElem h]
    show some _ = some _
    rw [yb_gd (by omega)]
    dsimp only
    rw [yb_e_app (by rw [hl]; exact hw _ (List.getElem_mem h))]
  · rw [List.getElem?_append_right (by omega), List.getElem?_append_right (by rw [yb_w_len hl]; omega), yb_w_len hl]
    by_cases h2 : k = ws.length
    · subst h2
      rw [Nat.sub_self]
      show some _ = some _
      rw [List.getD_eq_getElem?_getD, ← hl, List.getElem?_append_right (Nat.le_refl _), Nat.sub_self]
      rfl
    · obtain ⟨j, hj⟩ : ∃ j, k - ws.length = j + 1 := ⟨k - ws.length - 1, by omega⟩
      rw [hj]
      rfl
theorem yb_w_set {tc : Nat → ClassId} {ad : List Nat} {ws : yb_W} {k : Nat} {c : yb_C} (hl : ad.length = ws.length) (hk : k < ws.length) : (yb_w tc ad ws).set k (ad.getD k 0, yb_e tc ad c) = yb_w tc ad (ws.set k c) := by
  apply List.ext_getElem?
  intro j
  rw [yb_w_get (by rw [List.length_set]; exact hl), List.getElem?_set, List.getElem?_set, yb_w_len hl, yb_w_get hl]
  by_cases h : k = j
  · subst h
    rw [if_pos rfl, if_pos rfl, if_pos hk, if_pos hk]
    rfl
  · rw [if_neg h, if_neg h]
theorem yb_wf.push {ws : yb_W} {c : yb_C} (h : yb_wf ws) (hc : yb_ok (ws.length + 1) c) : yb_wf (ws ++ [c]) := by
  intro x hx
  rw [List.length_append, List.length_singleton]
  rcases List.mem_append.mp hx with q | q
  · exact yb_ok_mono (by omega) (h x q)
  · rw [List.mem_singleton] at q
    rw [q]
    exact hc
theorem yb_wf.set {ws : yb_W} {k : Nat} {c : yb_C} (h : yb_wf ws) (hc : yb_ok ws.length c) : yb_wf (ws.set k c) := by
  intro x hx
  rw [List.length_set]
  rcases List.mem_or_eq_of_mem_set hx with q | q
  · exact h x q
  · rw [q]
    exact hc
theorem yb_l_app {n nL : Nat} {ad L : List Nat} {ls : Array Slot} {lo : zm_L} (h : zl_ok (yb_Y ad.length) (yb_a ad) ls nL lo) (hn : ad.length ≤ n) : zl_ok (yb_Y n) (yb_a (ad ++ L)) ls nL lo := by
  refine ⟨h.1, h.2.1, h.2.2.1, fun i v hi => ?_⟩
  obtain ⟨h1, h2⟩ := h.2.2.2 i v hi
  exact ⟨by rw [yb_cv h2]; exact h1, yb_mono hn h2⟩
theorem yb_st_app {ad L : List Nat} {st : List zm_V} (h : ∀ v ∈ st, zv_ok (yb_Y ad.length) v) : st.map (zc_v (yb_a (ad ++ L))) = st.map (zc_v (yb_a ad)) := List.map_congr_left fun v hv => yb_cv (h v hv)
/-- the heap, the world, the addresses -/
def yb_s (D : va_G) (cl : List vw_C) (tc : Nat → ClassId) (A : Nat → Prop) (H0 : Heap) (ad0 ad : List Nat) (ws : yb_W) (H : Heap) (locs : List Loc) : Prop := (∃ L, ad = ad0 ++ L) ∧ ad.length = ws.length ∧ yb_wf ws ∧ va_P D cl (yb_w tc ad ws) H ∧ va_D A (yb_w tc ad ws) ∧ va_S A H0 H locs
def yb_t (tc : Nat → ClassId) (E : String) : List (ClassId × FieldType) := [(tc 0, .int), (tc 1, .boolean), (tc 2, .object E)]
/-- a field of the constructor's own class, a reference for good -/
def yb_f1 (cl : List vw_C) (Ts : List Cond) (own : String) (i c k : Nat) : Prop := ∃ (C : String) (T : u_T) (N : Nat), cl[c]? = some (C, T, N) ∧ k < N ∧ (∀ w ∈ u_ws C T N, w ∈ Ts) ∧ Cond.fieldLink own i (T k).1 (T k).2.1 (T k).2.2.1 ∈ Ts ∧
  (∃ ty0 : Nat → FieldType, (∀ k, k < N → parseFieldDescriptor (T k).2.2.1 = some (ty0 k)) ∧ ((∃ E, ty0 k = .object E) ∨ ∃ E, ty0 k = .array E)) ∧ (∀ a, a < N → ∀ b, b < N → a ≠ b → (T a).2.1 ≠ (T b).2.1) ∧ (T k).2.2.2 = true ∧ (T k).1 = own
def yb_d (ty : FieldType) : Option zm_V := match ty with
  | .int => some (.inl 0)
  | .boolean => some (.inl 0)
  | _ => none
def yb_dk (ty : FieldType) : Bool := match ty with
  | .int => true
  | .boolean => true
  | .object _ => true
  | .array _ => true
  | _ => false
/-- a class that can be made -/
def yb_n1 (df : Nat → List (Option zm_V)) (cl : List vw_C) (Ts : List Cond) (own : String) (i ci : Nat) : Prop := ∃ (C : String) (T : u_T) (N : Nat), cl[ci]? = some (C, T, N) ∧ (∀ w ∈ u_ws C T N, w ∈ Ts) ∧ Cond.classLink own i C ∈ Ts ∧ Cond.instantiable C N ∈ Ts ∧ Cond.initialized C ∈ Ts ∧
  ∃ ty0 : Nat → FieldType, (∀ k, k < N → parseFieldDescriptor (T k).2.2.1 = some (ty0 k)) ∧ (∀ k, k < N → yb_dk (ty0 k) = true) ∧ df ci = (List.range N).map fun k => yb_d (ty0 k)
theorem yb_d_ok {ty : FieldType} (h : yb_dk ty = true) (ad : List Nat) : yb_f ad (yb_d ty) = defaultValue ty := by
  cases ty <;> first | rfl | cases h
theorem yb_df_ok {n N : Nat} {ty0 : Nat → FieldType} {ci : Nat} : yb_ok n (.inl (ci, (List.range N).map fun k => yb_d (ty0 k))) := by
  intro v hv
  obtain ⟨k, -, hk⟩ := List.mem_map.mp hv
  unfold yb_d at hk
  split at hk
  · cases hk
    trivial
  · cases hk
    trivial
  · cases hk
