/-! THE ABSTRACT MACHINE IS SOUND: where it comes to an end, the machine comes to the same. -/
def zc_v (ad : Nat × Nat → Nat) : zm_V → Value
  | .inl x => .int x
  | .inr r => .ref (ad r)
theorem zc_v_cat (ad : Nat × Nat → Nat) (v : zm_V) : (zc_v ad v).category = 1 := by cases v <;> rfl
def zy_ok (Y : zm_Y) (r : Nat × Nat) : Prop := zy_k Y r.1 = 4 ∨ (r.1 < zy_s Y ∧ r.2 < zy_m Y r.1)
def zv_ok (Y : zm_Y) : zm_V → Prop
  | .inl _ => True
  | .inr r => zy_ok Y r
def zy_d (Y : zm_Y) : List (Nat × Nat) := (List.range (zy_s Y)).flatMap fun s => (List.range (zy_m Y s)).map fun i => (s, i)
theorem zy_d_mem {Y : zm_Y} {r : Nat × Nat} : r ∈ zy_d Y ↔ r.1 < zy_s Y ∧ r.2 < zy_m Y r.1 := by
  obtain ⟨s, i⟩ := r
  simp only [zy_d, List.mem_flatMap, List.mem_range, List.mem_map, Prod.mk.injEq]
  constructor
  · rintro ⟨a, h1, b, h2, rfl, rfl⟩
    exact ⟨h1, h2⟩
  · rintro ⟨h1, h2⟩
    exact ⟨s, h1, i, h2, rfl, rfl⟩
/-- a cell of the store, as the kit's worlds have it -/
def zc_e (Y : zm_Y) (ad : Nat × Nat → Nat) (cA : Nat → ClassId) (M : zm_M) (r : Nat × Nat) : va_E := match zy_k Y r.1 with
  | 0 => .inr (zy_c Y r.1, (List.range (zy_n Y r.1)).map fun k => match zy_r Y r.1 r.2 k with
    | none => .int (M r.1 r.2 k)
    | some q => .ref (ad q))
  | 3 => .inl (cA r.1, zy_n Y r.1, .inr (.inr (.inr (.inr fun j => some (ad (zy_e Y r.1 r.2 j))))))
  | _ => .inl (cA r.1, zy_n Y r.1, .inl (M r.1 r.2))
def zc_w (Y : zm_Y) (ad : Nat × Nat → Nat) (cA : Nat → ClassId) (M : zm_M) : va_W := (zy_d Y).map fun r => (ad r, zc_e Y ad cA M r)
theorem zc_at {Y : zm_Y} {ad : Nat × Nat → Nat} {cA : Nat → ClassId} {M : zm_M} {r : Nat × Nat} (h : r ∈ zy_d Y) : ∃ q0 : Nat, (zc_w Y ad cA M)[q0]? = some (ad r, zc_e Y ad cA M r) :=
  List.getElem?_of_mem (List.mem_map.mpr ⟨r, h, rfl⟩)
theorem zc_get {Y : zm_Y} {ad : Nat × Nat → Nat} {cA : Nat → ClassId} {M : zm_M} {k : Nat} : (zc_w Y ad cA M)[k]? = ((zy_d Y)[k]?).map fun r => (ad r, zc_e Y ad cA M r) := by
  simp [zc_w]
theorem zc_set {Y : zm_Y} {ad : Nat × Nat → Nat} {cA : Nat → ClassId} {M M' : zm_M} {r : Nat × Nat} {q0 : Nat} {A : Nat → Prop} (hD : va_D A (zc_w Y ad cA M)) (hi : ∀ x ∈ zy_d Y, ∀ y ∈ zy_d Y, ad x = ad y → x = y) (hr : r ∈ zy_d Y) (h : (zc_w Y ad cA M)[q0]? = some (ad r, zc_e Y ad cA M r))
    (ho : ∀ x, x ≠ r → zc_e Y ad cA M' x = zc_e Y ad cA M x) : (zc_w Y ad cA M).set q0 (ad r, zc_e Y ad cA M' r) = zc_w Y ad cA M' := by
  apply List.ext_getElem?
  intro k
  have hl := (List.getElem?_eq_some_iff.mp h).1
  by_cases hk : k = q0
  · subst hk
    rw [List.getElem?_set_self hl, zc_get]
    rw [zc_get] at h
    cases hd : (zy_d Y)[k]? with
    | none => rw [hd] at h; cases h
    | some x =>
      rw [hd] at h
      have hx : ad x = ad r := congrArg Prod.fst (Option.some.inj h)
      have hxr := hi x (List.mem_of_getElem? hd) r hr hx
      subst hxr
      rfl
  · rw [List.getElem?_set_ne (Ne.symm hk), zc_get, zc_get]
    cases hd : (zy_d Y)[k]? with
    | none => rfl
    | some x =>
      have hne : x ≠ r := by
        rintro rfl
        exact hk (hD.1 k q0 _ _ (by rw [zc_get, hd]; rfl) h rfl)
      show some (ad x, zc_e Y ad cA M x) = some (ad x, zc_e Y ad cA M' x)
      rw [ho x hne]
/-- locals -/
def zl_ok (Y : zm_Y) (ad : Nat × Nat → Nat) (ls : Array Slot) (nL : Nat) (lo : zm_L) : Prop := lo.length = nL ∧ ls.size = nL ∧ lv_wf ls ∧ ∀ (i : Nat) (v : zm_V), lo[i]? = some (some v) → ls[i]? = some (.val (zc_v ad v)) ∧ zv_ok Y v
def zl_l (ad : Nat × Nat → Nat) (lo : zm_L) : List (Nat × Value) := (List.range lo.length).filterMap fun j => match lo[j]? with
  | some (some v) => some (j, zc_v ad v)
  | _ => none
theorem zl_mem {ad : Nat × Nat → Nat} {lo : zm_L} {q : Nat × Value} : q ∈ zl_l ad lo ↔ ∃ v, lo[q.1]? = some (some v) ∧ q.2 = zc_v ad v := by
  obtain ⟨i, w⟩ := q
  simp only [zl_l, List.mem_filterMap, List.mem_range]
  constructor
  · rintro ⟨j, hj, h⟩
    split at h
    · next v hv => cases h; exact ⟨v, hv, rfl⟩
    · cases h
  · rintro ⟨v, h1, h2⟩
    refine ⟨i, (List.getElem?_eq_some_iff.mp h1).1, ?_⟩
    rw [h1]
    simp only [h2]
theorem zl_has {Y : zm_Y} {ad : Nat × Nat → Nat} {ls : Array Slot} {nL : Nat} {lo : zm_L} (h : zl_ok Y ad ls nL lo) : lv_has ls nL (zl_l ad lo) :=
  ⟨h.2.1, h.2.2.1, fun q hq => by obtain ⟨v, h1, h2⟩ := zl_mem.mp hq; rw [h2]; exact (h.2.2.2 q.1 v h1).1⟩
theorem zl_set {Y : zm_Y} {ad : Nat × Nat → Nat} {ls ls' : Array Slot} {nL i : Nat} {lo : zm_L} {v : zm_V} (h : zl_ok Y ad ls nL lo) (hv : zv_ok Y v) (h' : lv_has ls' nL ((i, zc_v ad v) :: (zl_l ad lo).filter (fun q => !(q.1 == i) && !(q.1 + 1 == i && q.2.category == 2)))) : zl_ok Y ad ls' nL (lo.set i (some v)) := by
  refine ⟨by rw [List.length_set]; exact h.1, h'.1, h'.2.1, fun j w hw => ?_⟩
  by_cases hj : j = i
  · subst hj
    have hlt : j < lo.length := by
      have := (List.getElem?_eq_some_iff.mp hw).1
      rwa [List.length_set] at this
    rw [List.getElem?_set_self hlt] at hw
    cases hw
    exact ⟨h'.2.2 (j, zc_v ad v) List.mem_cons_self, hv⟩
  · rw [List.getElem?_set_ne (Ne.symm hj)] at hw
    refine ⟨h'.2.2 (j, zc_v ad w) (List.mem_cons_of_mem _ (List.mem_filter.mpr ⟨zl_mem.mpr ⟨w, hw, rfl⟩, ?_⟩)), (h.2.2.2 j w hw).2⟩
    simp [hj, zc_v_cat]
/-! the code's table -/
def zm_ln (pc : Nat) : Jvm.ClassFile.Instr → Nat
  | .tableswitch _ _ _ offs => 13 + (3 - pc % 4) + 4 * offs.size
  | .bipush _ => 2
  | .sipush _ => 3
  | .ldc _ => 2
  | .iload _ => 2
  | .aload _ => 2
  | .istore _ => 2
  | .astore _ => 2
  | .iinc _ _ => 3
  | .goto _ => 3
  | .ifCond _ _ => 3
  | .if_icmp _ _ => 3
  | .getfield _ => 3
  | .putfield _ => 3
  | .getstatic _ => 3
  | .invokevirtual _ => 3
  | .invokestatic _ => 3
  | .invokespecial _ => 3
  | .new _ => 3
  | .anewarray _ => 3
  | .newarray _ => 2
  | _ => 1
def zm_tj (pc : Nat) (ts : List Nat) (o : Int) : Bool := match ts with
  | t :: _ => decide ((pc : Int) + o = (t : Int))
  | [] => false
def zm_tg (pc : Nat) (ts : List Nat) : Jvm.ClassFile.Instr → Bool
  | .goto o => zm_tj pc ts o
  | .ifCond _ o => zm_tj pc ts o
  | .if_icmp _ o => zm_tj pc ts o
  | .tableswitch d v w offs => match ts with
    | t :: ts => decide ((pc : Int) + d = (t : Int)) && (decide (w + 1 = v + (ts.length : Int)) && (decide (offs.toList.map (fun o => (pc : Int) + o) = ts.map (fun (t : Nat) => (t : Int))) && (decide (-2 ^ 31 ≤ v) && decide (w < 2 ^ 31))))
    | [] => false
  | _ => true
def zm_en (cc : ByteArray) (q : Nat × Jvm.ClassFile.Instr × Nat × List Nat) : Prop := decode cc q.1 = .ok (q.2.1, zm_ln q.1 q.2.1) ∧ q.2.2.1 = q.1 + zm_ln q.1 q.2.1 ∧ zm_tg q.1 q.2.2.2 q.2.1 = true
theorem zm_sw_ok {T : Type} {t : T} {x : Int32} {d : Nat} {k : Nat → Option T} : ∀ (ts : List Nat) (v : Int), zm_sw x v ts d k = some t → (∃ (j tg : Nat), ts[j]? = some tg ∧ x = Int32.ofInt (v + (j : Int)) ∧ k tg = some t) ∨ ((∀ j : Nat, j < ts.length → x ≠ Int32.ofInt (v + (j : Int))) ∧ k d = some t)
  | [], v, h => Or.inr ⟨fun j hj => absurd hj (Nat.not_lt_zero j), h⟩
  | a :: ts, v, h => by
    unfold zm_sw at h
    split at h
    · next hx => exact Or.inl ⟨0, a, rfl, by simpa using hx, h⟩
    · next hx =>
      rcases zm_sw_ok ts (v + 1) h with ⟨j, tg, h1, h2, h3⟩ | ⟨h1, h2⟩
      · exact Or.inl ⟨j + 1, tg, h1, by rw [h2]; congr 1; omega, h3⟩
      · refine Or.inr ⟨fun j hj => ?_, h2⟩
        cases j with
        | zero => simpa using hx
        | succ j =>
          have h3 := h1 j (by simpa using hj)
          rw [show v + ((j + 1 : Nat) : Int) = v + 1 + (j : Int) by omega]
          exact h3
/-! what a method's frame knows -/
def zg_ok (Y : zm_Y) (cl : List vw_C) (tys : List (ClassId × FieldType)) (ad : Nat × Nat → Nat) (cA : Nat → ClassId) (A : Nat → Prop) : Prop :=
  (∀ M, va_D A (zc_w Y ad cA M)) ∧ (∀ x ∈ zy_d Y, ∀ y ∈ zy_d Y, ad x = ad y → x = y) ∧
  (∀ s, s < zy_s Y → zy_k Y s = 1 → ∃ t0 : Nat, tys[t0]? = some (cA s, .int)) ∧ (∀ s, s < zy_s Y → zy_k Y s = 2 → ∃ t0 : Nat, tys[t0]? = some (cA s, .boolean)) ∧ (∀ s, s < zy_s Y → zy_k Y s = 3 → ∃ (t0 : Nat) (C : String), tys[t0]? = some (cA s, .object C)) ∧
  (∀ s, s < zy_s Y → zy_k Y s = 0 → ∃ (C : String) (T : u_T), cl[zy_c Y s]? = some (C, T, zy_n Y s)) ∧
  (∀ s i k q, s < zy_s Y → i < zy_m Y s → zy_r Y s i k = some q → zy_ok Y q) ∧
  (∀ s i j, s < zy_s Y → i < zy_m Y s → zy_k Y s = 3 → j < zy_n Y s → zy_ok Y (zy_e Y s i j)) ∧
  (∀ s, s < zy_s Y → zy_k Y s < 4) ∧
  (∀ s i k, s < zy_s Y → zy_k Y s = 0 → zy_f Y (zy_c Y s) k < 2 → zy_r Y s i k = none)
def zf_ok (Y : zm_Y) (cl : List vw_C) (Ts : List Cond) (own : String) (fl : Nat → Option (Nat × Nat)) : Prop := ∀ (i c k : Nat), fl i = some (c, k) → ∃ (C : String) (T : u_T) (N : Nat), cl[c]? = some (C, T, N) ∧ k < N ∧ (∀ w ∈ u_ws C T N, w ∈ Ts) ∧
  (Cond.fieldLink own i (T k).1 (T k).2.1 (T k).2.2.1 ∈ Ts ∨ ∃ host, Cond.fieldLinkNest own i (T k).1 (T k).2.1 (T k).2.2.1 host ∈ Ts) ∧
  (∃ ty0 : Nat → FieldType, ∀ k, k < N → parseFieldDescriptor (T k).2.2.1 = some (ty0 k)) ∧ (∀ a, a < N → ∀ b, b < N → a ≠ b → (T a).2.1 ≠ (T b).2.1) ∧
  (zy_f Y c k = 0 → (T k).2.2.2 = false ∧ parseFieldDescriptor (T k).2.2.1 = some .int) ∧ (zy_f Y c k = 1 → (T k).2.2.2 = false ∧ parseFieldDescriptor (T k).2.2.1 = some .boolean)
section ZS
variable {p : Program} {l : Launch} {e : Env} {R : Room} {s : State} {m : MethodId} {args : Array Value} {below : List Frame} {meth : Method} {c : Code} {H : Heap} {locs : List Loc} {cells slots : Nat} {Q : State → Prop}
variable {cc : ByteArray} {pc nL : Nat} {ls : Array Slot} {rest : List Value} {D : va_G} {cl : List vw_C} {tys : List (ClassId × FieldType)} {A : Nat → Prop} {ad : Nat × Nat → Nat} {cA : Nat → ClassId} {Y : zm_Y} {own : String} {Ts : List Cond} {M : zm_M}
/-- the world holds the store M -/
def zs_at (D : va_G) (cl : List vw_C) (Y : zm_Y) (ad : Nat × Nat → Nat) (cA : Nat → ClassId) (A : Nat → Prop) (H0 : Heap) (M : zm_M) (H : Heap) (locs : List Loc) : Prop := va_P D cl (zc_w Y ad cA M) H ∧ va_S A H0 H locs
theorem zs_gf (hx : p.tables.exec = Jvm.exec) (hb : c.code = cc) (hown : s.vm.findClass own = some m.cls) (hts : ∀ w ∈ Ts, w.before args s = true) (hG : zg_ok Y cl tys ad cA A) (hK : va_K D cl tys s) {fl : Nat → Option (Nat × Nat)} (hF : zf_ok Y cl Ts own fl) {T : Type} {t : T} {i : Nat} {r : Nat × Nat} {k : zm_V → Option T} (hr : zy_ok Y r) (h : zm_gf Y (fl i) r M k = some t) (hP : zs_at D cl Y ad cA A s.heap M H locs) (hd : decode cc pc = .ok (.getfield i, 3))
    (kk : ∀ v, zv_ok Y v → k v = some t → W p l e R s m args below meth c H locs cells slots Q (F0 m (pc + 3) ls (zc_v ad v :: rest))) : W p l e R s m args below meth c H locs cells slots Q (F0 m pc ls (.ref (ad r) :: rest)) := by
  unfold zm_gf at h
  split at h
  · next cn j hf =>
    split at h
    · next hc =>
      rw [Bool.and_eq_true, Nat.beq_eq, Nat.beq_eq] at hc
      obtain ⟨hk0, hkc⟩ := hc
      have hdm : r.1 < zy_s Y ∧ r.2 < zy_m Y r.1 := by
        rcases hr with h4 | h4
        · rw [hk0] at h4; cases h4
        · exact h4
      obtain ⟨C, T0, hcl⟩ := hG.2.2.2.2.2.1 r.1 hdm.1 hk0
      obtain ⟨C', T', N', hcl', hjN, hin, hlink, -⟩ := hF i cn j hf
      rw [hkc, hcl'] at hcl
      cases hcl
      obtain ⟨q0, hq0⟩ := zc_at (ad := ad) (cA := cA) (M := M) (zy_d_mem.mpr hdm)
      have he : zc_e Y ad cA M r = .inr (cn, (List.range (zy_n Y r.1)).map fun k => match zy_r Y r.1 r.2 k with
          | none => .int (M r.1 r.2 k)
          | some q => .ref (ad q)) := by
        unfold zc_e
        rw [hk0, hkc]
        rfl
      rw [he] at hq0
      have key : ∀ v : zm_V, zv_ok Y v → k v = some t → ((List.range (zy_n Y r.1)).map fun k => match zy_r Y r.1 r.2 k with
          | none => Value.int (M r.1 r.2 k)
          | some q => .ref (ad q))[j]? = some (zc_v ad v) → W p l e R s m args below meth c H locs cells slots Q (F0 m pc ls (.ref (ad r) :: rest)) := by
        intro v hv hkv hg
        rcases hlink with hl | ⟨host, hl⟩
        · exact va_get hx hb hts hin hown hK hP.1 q0 hq0 hcl' j hjN (hts _ hl) (fun _ h => h) hg hd (kk v hv hkv)
        · exact va_getN hx hb hts hin hown hK hP.1 q0 hq0 hcl' j hjN (hts _ hl) (fun _ h => h) hg hd (kk v hv hkv)
      cases hz : zy_r Y r.1 r.2 j with
      | none =>
        rw [hz] at h
        refine key (.inl (M r.1 r.2 j)) trivial h ?_
        simp [hjN, hz, zc_v]
      | some q =>
        rw [hz] at h
        refine key (.inr q) (hG.2.2.2.2.2.2.1 r.1 r.2 j q hdm.1 hdm.2 hz) h ?_
        simp [hjN, hz, zc_v]
    · cases h
  · cases h
theorem zc_e_ne {Y : zm_Y} {ad : Nat × Nat → Nat} {cA : Nat → ClassId} {M : zm_M} {r x : Nat × Nat} {k : Nat} {v : Int32} (h : x ≠ r) : zc_e Y ad cA (zm_up M r.1 r.2 k v) x = zc_e Y ad cA M x := by
  have hr : ∀ k', zm_up M r.1 r.2 k v x.1 x.2 k' = M x.1 x.2 k' := fun k' => by
    unfold zm_up
    by_cases h1 : x.1 = r.1
    · by_cases h2 : x.2 = r.2
      · exact absurd (Prod.ext h1 h2) h
      · simp [h2]
    · simp [h1]
  have hf : zm_up M r.1 r.2 k v x.1 x.2 = M x.1 x.2 := funext hr
  unfold zc_e
  rw [hf]
theorem zs_pf (hx : p.tables.exec = Jvm.exec) (hb : c.code = cc) (hown : s.vm.findClass own = some m.cls) (hts : ∀ w ∈ Ts, w.before args s = true) (hG : zg_ok Y cl tys ad cA A) (hK : va_K D cl tys s) {fl : Nat → Option (Nat × Nat)} (hF : zf_ok Y cl Ts own fl) {T : Type} {t : T} {i : Nat} {r : Nat × Nat} {x : Int32} {k : zm_M → Option T} (hr : zy_ok Y r) (h : zm_pf Y (fl i) r x M k = some t) (hP : zs_at D cl Y ad cA A s.heap M H locs) (hd : decode cc pc = .ok (.putfield i, 3))
    (kk : ∀ M' H' locs', k M' = some t → zs_at D cl Y ad cA A s.heap M' H' locs' → W p l e R s m args below meth c H' locs' cells slots Q (F0 m (pc + 3) ls rest)) : W p l e R s m args below meth c H locs cells slots Q (F0 m pc ls (.int x :: .ref (ad r) :: rest)) := by
  unfold zm_pf at h
  split at h
  · next cn j hf =>
    split at h
    · next hc =>
      rw [Bool.and_eq_true, Nat.beq_eq, Nat.beq_eq] at hc
      obtain ⟨hk0, hkc⟩ := hc
      have hdm : r.1 < zy_s Y ∧ r.2 < zy_m Y r.1 := by
        rcases hr with h4 | h4
        · rw [hk0] at h4; cases h4
        · exact h4
      obtain ⟨C, T0, hcl⟩ := hG.2.2.2.2.2.1 r.1 hdm.1 hk0
      obtain ⟨C', T', N', hcl', hjN, hin, hlink, ⟨ty0, hty⟩, hnm, hf0, hf1⟩ := hF i cn j hf
      have hcl2 := hcl
      rw [hkc, hcl'] at hcl2
      cases hcl2
      obtain ⟨q0, hq0⟩ := zc_at (ad := ad) (cA := cA) (M := M) (zy_d_mem.mpr hdm)
      have hq1 := hq0
      have he : ∀ M : zm_M, zc_e Y ad cA M r = .inr (cn, (List.range (zy_n Y r.1)).map fun k => match zy_r Y r.1 r.2 k with
          | none => .int (M r.1 r.2 k)
          | some q => .ref (ad q)) := by
        intro M
        unfold zc_e
        rw [hk0, hkc]
        rfl
      rw [he] at hq1
      have key : ∀ (ty : FieldType), (T0 j).2.2.2 = false → parseFieldDescriptor (T0 j).2.2.1 = some ty → zy_f Y cn j < 2 → narrow ty (.int x) = .int x → fits ty (.int x) = true → k (zm_up M r.1 r.2 j x) = some t → W p l e R s m args below meth c H locs cells slots Q (F0 m pc ls (.int x :: .ref (ad r) :: rest)) := by
        intro ty hfin hpd hz2 hnar hfit hk
        have hz : zy_r Y r.1 r.2 j = none := hG.2.2.2.2.2.2.2.2.2 r.1 r.2 j hdm.1 hk0 (by rw [hkc]; exact hz2)
        have hset : (List.range (zy_n Y r.1)).map (fun k => match zy_r Y r.1 r.2 k with
          | none => Value.int (zm_up M r.1 r.2 j x r.1 r.2 k)
          | some q => .ref (ad q)) = ((List.range (zy_n Y r.1)).map (fun k => match zy_r Y r.1 r.2 k with
          | none => Value.int (M r.1 r.2 k)
          | some q => .ref (ad q))).set j (.int x) := by
          apply List.ext_getElem?
          intro n
          by_cases hn : n = j
          · subst hn
            rw [List.getElem?_set_self (by simpa using hjN)]
            simp [hjN, hz, zm_up]
          · rw [List.getElem?_set_ne (Ne.symm hn)]
            simp only [List.getElem?_map, List.getElem?_range]
            by_cases hlt : n < zy_n Y r.1
            · simp [hlt, zm_up, hn]
            · simp [hlt]
        have hws : (zc_w Y ad cA M).set q0 (ad r, .inr (cn, ((List.range (zy_n Y r.1)).map (fun k => match zy_r Y r.1 r.2 k with
          | none => Value.int (M r.1 r.2 k)
          | some q => .ref (ad q))).set j (.int x))) = zc_w Y ad cA (zm_up M r.1 r.2 j x) := by
          rw [← hset, ← he (zm_up M r.1 r.2 j x)]
          exact zc_set (hG.1 M) hG.2.1 (zy_d_mem.mpr hdm) hq0 (fun y hy => zc_e_ne hy)
        rcases hlink with hl | ⟨host, hl⟩
        · refine va_put hx hb hts hin ty0 hty hnm hown hK hP.1 (hG.1 M) hP.2 q0 hq1 hcl' j hjN (hts _ hl) (fun _ h => h) hfin hpd hnar hfit (by simpa using hjN) hd (fun H1 locs1 h1 h2 h3 => ?_)
          rw [hws] at h1
          exact kk _ H1 locs1 hk ⟨h1, h3⟩
        · refine va_putN hx hb hts hin ty0 hty hnm hown hK hP.1 (hG.1 M) hP.2 q0 hq1 hcl' j hjN (hts _ hl) (fun _ h => h) hfin hpd hnar hfit (by simpa using hjN) hd (fun H1 locs1 h1 h2 h3 => ?_)
          rw [hws] at h1
          exact kk _ H1 locs1 hk ⟨h1, h3⟩
      split at h
      · next hz => exact key .int (hf0 hz).1 (hf0 hz).2 (by omega) rfl rfl h
      · next hz =>
        split at h
        · next h01 =>
          refine key .boolean (hf1 hz).1 (hf1 hz).2 (by omega) ?_ ?_ h
          · rcases h01 with rfl | rfl <;> rfl
          · rcases h01 with rfl | rfl <;> rfl
        · cases h
      · cases h
    · cases h
  · cases h
end ZS
