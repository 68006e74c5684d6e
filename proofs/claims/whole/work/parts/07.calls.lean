/-! CALLS: a contract gives the rule of a call -/
def zl_up {α : Type} : List (Nat × α) → Nat → Option α
  | [], _ => none
  | (j, a) :: L, i => match Nat.beq j i with
    | true => some a
    | false => zl_up L i
theorem zl_up_mem {α : Type} : ∀ {L : List (Nat × α)} {i : Nat} {a : α}, zl_up L i = some a → (i, a) ∈ L
  | [], i, a, h => by cases h
  | (j, b) :: L, i, a, h => by
    unfold zl_up at h
    split at h
    · next hj =>
      cases h
      rw [Nat.eq_of_beq_eq_true hj]
      exact List.mem_cons_self
    · exact List.mem_cons_of_mem _ (zl_up_mem h)
/-- a method of n arguments; an instance method's receiver is of class ci -/
def zm_fs {T : Type} (n : Nat) (F : List zm_V → zm_M → Option T) (av : List zm_V) (M : zm_M) : Option T := match Nat.beq av.length n with
  | true => F av M
  | false => none
def zm_fv {T : Type} (Y : zm_Y) (ci n : Nat) (F : List zm_V → zm_M → Option T) (av : List zm_V) (M : zm_M) : Option T := match av with
  | .inr r :: as => match Nat.beq as.length n && (Nat.beq (zy_k Y r.1) 0 && Nat.beq (zy_c Y r.1) ci) with
    | true => F (.inr r :: as) M
    | false => none
  | _ => none
theorem zm_fs_spec {T : Type} {n : Nat} {F : List zm_V → zm_M → Option T} {av : List zm_V} {M : zm_M} {t : T} (h : zm_fs n F av M = some t) : av.length = n ∧ F av M = some t := by
  unfold zm_fs at h
  split at h
  · next hn => exact ⟨Nat.eq_of_beq_eq_true hn, h⟩
  · cases h
theorem zm_fv_spec {T : Type} {Y : zm_Y} {ci n : Nat} {F : List zm_V → zm_M → Option T} {av : List zm_V} {M : zm_M} {t : T} (h : zm_fv Y ci n F av M = some t) : ∃ r as, av = .inr r :: as ∧ as.length = n ∧ zy_k Y r.1 = 0 ∧ zy_c Y r.1 = ci ∧ F av M = some t := by
  unfold zm_fv at h
  split at h
  · next r as =>
    split at h
    · next hc =>
      rw [Bool.and_eq_true, Bool.and_eq_true, Nat.beq_eq, Nat.beq_eq, Nat.beq_eq] at hc
      exact ⟨r, as, rfl, hc.1, hc.2.1, hc.2.2, h⟩
    · cases h
  · cases h
section ZC
variable {p : Program} {l : Launch} {e : Env} {R : Room} {s : State} {m : MethodId} {args : Array Value} {below : List Frame} {meth : Method} {c : Code} {H : Heap} {locs : List Loc} {Q : State → Prop}
variable {cc : ByteArray} {pc nL : Nat} {ls : Array Slot} {rest st0 : List Value} {D : va_G} {cl : List vw_C} {tys : List (ClassId × FieldType)} {A : Nat → Prop} {ad : Nat × Nat → Nat} {cA : Nat → ClassId} {Y : zm_Y} {own : String} {Ts : List Cond} {M : zm_M} {Zs : zk_Zs}
theorem zk_call {v : Option zm_V} {M' : zm_M} {a : Array Value} (hr : va_Run p l e R s m args below meth c H locs 0 0 0 0 (F0 m pc ls st0) rest (zk_po Y cl D ad cA A v M' a) A) (hS : va_S A s.heap H locs)
    (kk : ∀ H1 locs1, (∀ w ∈ v, zv_ok Y w) → zs_at D cl Y ad cA A s.heap M' H1 locs1 → W p l e R s m args below meth c H1 locs1 0 0 Q (F0 m (pc + 3) ls ((v.map (zc_v ad)).toList ++ rest))) : W p l e R s m args below meth c H locs 0 0 Q (F0 m pc ls st0) := by
  intro T hT X
  obtain ⟨v', st₀, t, T', L, h0, X', hL, e1, e2, ⟨hv, hvv, hP', hz, hk⟩, st⟩ := hr T hT X
  cases hv
  rw [h0] at hz hk
  obtain ⟨t2, a1, b1⟩ := kk T'.heap (locs ++ L) hvv ⟨by rw [e1]; exact hP', Nat.le_trans hS.1 (by rw [e1]; exact hz), fun q h1 h2 => by rw [e1, hk q (Nat.lt_of_lt_of_le h1 hS.1) h2]; exact hS.2.1 q h1 h2, fun q hq => by
      rcases List.mem_append.mp hq with h | h
      · exact hS.2.2 q h
      · exact hL q h⟩ T' rfl X'
  exact ⟨t2, st t2 a1, b1⟩
theorem zk_blind (hTs : ∀ w ∈ Ts, zk_nw w = true) (av : List Value) : FrameBlind (va_Pc av (zk_pr Ts Y cl Zs D tys ad cA A M)) := by
  intro a U g mk h
  obtain ⟨h0, h1, h2, h3, h4⟩ := h
  refine ⟨h0, h1, va_K.moved (u := U) (U := U.calling g mk a) (Vm.Alike.refl U.vm) h2, zk_cs.moved (u := U) (U := U.calling g mk a) (Vm.Alike.refl U.vm) h3, fun w hw => ?_⟩
  have hw1 := hTs w hw
  have ho : w.onTables = true := by
    unfold zk_nw at hw1
    split at hw1
    · rfl
    · rfl
    · exact (Bool.and_eq_true _ _ ▸ hw1 : _ ∧ _).1
  exact va_Nw.same ho (rfl : U.vm = (U.calling g mk a).vm) (h4 w hw)
theorem zk_pre (hTs : ∀ w ∈ Ts, zk_nw w = true) (hK : va_K D cl tys s) (hcs : zk_cs Y Zs ad A s s.heap) (htb : zk_tb Ts s) (hP : zs_at D cl Y ad cA A s.heap M H locs) {U : State} (hU : U.heap = H) (hW : s.WarmedH U.vm) : zk_pr Ts Y cl Zs D tys ad cA A M U := by
  refine ⟨by rw [hU]; exact hP.1, va_K.moved hW.alike hK, ?_, zk_tb.warm hTs hW htb⟩
  rw [hU]
  exact (hcs.moved hW.alike).kept hP.2.2.1
theorem zk_sum (ad : Nat × Nat → Nat) (st : List zm_V) : ((st.map (zc_v ad)).map fun v => v.category).sum = st.length := by
  induction st with
  | nil => rfl
  | cons a st ih => simp only [List.map_cons, List.sum_cons, ih, zc_v_cat, List.length_cons]; omega
/-- what a call's rule is for, before the kinds of answers part -/
def zj_ok (p : Program) (l : Launch) (e : Env) (R : Room) (s : State) (m : MethodId) (args : Array Value) (below : List Frame) (meth : Method) (c : Code) (Q : State → Prop) (cc : ByteArray) (nL : Nat) (D : va_G) (cl : List vw_C) (A : Nat → Prop) (ad : Nat × Nat → Nat) (cA : Nat → ClassId) (Y : zm_Y) (key n : Nat) {T : Type} (out : T → Option zm_V × zm_M) (f : List zm_V → zm_M → Option T) : Prop :=
  ∀ (i pc : Nat) (ls : Array Slot) (av rs : List zm_V) (M : zm_M) (H : Heap) (locs : List Loc) (ins : Jvm.ClassFile.Instr) (q : T), ((key = 2 * i + 1 ∧ ins = .invokevirtual i) ∨ (key = 2 * i ∧ ins = .invokestatic i)) → decode cc pc = .ok (ins, 3) → ls.size = nL → (∀ v ∈ av, zv_ok Y v) → rs.length ≤ 8 → av.length = n → zs_at D cl Y ad cA A s.heap M H locs → f av M = some q →
    (∀ (H' : Heap) (locs' : List Loc), (∀ w ∈ (out q).1, zv_ok Y w) → zs_at D cl Y ad cA A s.heap (out q).2 H' locs' → W p l e R s m args below meth c H' locs' 0 0 Q (F0 m (pc + 3) ls (((out q).1.toList ++ rs).map (zc_v ad)))) →
    W p l e R s m args below meth c H locs 0 0 Q (F0 m pc ls ((av.reverse ++ rs).map (zc_v ad)))
theorem zj_split {st : List zm_V} {n : Nat} (h : n ≤ st.length) : (st.take n).reverse.reverse ++ st.drop n = st ∧ (st.take n).reverse.length = n := by
  rw [List.reverse_reverse, List.take_append_drop, List.length_reverse, List.length_take]
  exact ⟨rfl, by omega⟩
theorem zj_i {i n : Nat} {f : List zm_V → zm_M → Option (Int32 × zm_M)} (h : zj_ok p l e R s m args below meth c Q cc nL D cl A ad cA Y i n zo_i f) : zi_ok p l e R s m args below meth c 0 0 Q cc nL D cl A ad cA Y i (some (n, .inl f)) := by
  intro ix pc ls st M H locs ins hi hd hls hst hP T t K hk kk
  unfold zm_iv at hk
  dsimp only at hk
  split at hk
  · next hc =>
    rw [Bool.and_eq_true] at hc
    have h1 := Nat.le_of_ble_eq_true hc.1
    have h2 := Nat.le_of_ble_eq_true hc.2
    obtain ⟨q, hq, hk⟩ := Option.bind_eq_some_iff.mp hk
    obtain ⟨e1, e2⟩ := zj_split h1
    have := h ix pc ls (st.take n).reverse (st.drop n) M H locs ins q hi hd hls (fun v hv => hst v (List.mem_of_mem_take (List.mem_reverse.mp hv))) (by rw [List.length_drop]; omega) e2 hP hq (fun H' locs' _ hP' => kk _ _ H' locs' hk (fun v hv => by
      rcases List.mem_cons.mp hv with rfl | hv
      · exact trivial
      · exact hst v (List.mem_of_mem_drop hv)) hP')
    rw [e1] at this
    exact this
  · cases hk
theorem zj_v {i n : Nat} {f : List zm_V → zm_M → Option zm_M} (h : zj_ok p l e R s m args below meth c Q cc nL D cl A ad cA Y i n zo_v f) : zi_ok p l e R s m args below meth c 0 0 Q cc nL D cl A ad cA Y i (some (n, .inr (.inl f))) := by
  intro ix pc ls st M H locs ins hi hd hls hst hP T t K hk kk
  unfold zm_iv at hk
  dsimp only at hk
  split at hk
  · next hc =>
    rw [Bool.and_eq_true] at hc
    have h1 := Nat.le_of_ble_eq_true hc.1
    have h2 := Nat.le_of_ble_eq_true hc.2
    obtain ⟨q, hq, hk⟩ := Option.bind_eq_some_iff.mp hk
    obtain ⟨e1, e2⟩ := zj_split h1
    have := h ix pc ls (st.take n).reverse (st.drop n) M H locs ins q hi hd hls (fun v hv => hst v (List.mem_of_mem_take (List.mem_reverse.mp hv))) (by rw [List.length_drop]; omega) e2 hP hq (fun H' locs' _ hP' => kk _ _ H' locs' hk (fun v hv => hst v (List.mem_of_mem_drop hv)) hP')
    rw [e1] at this
    exact this
  · cases hk
theorem zj_r {i n : Nat} {f : List zm_V → zm_M → Option ((Nat × Nat) × zm_M)} (h : zj_ok p l e R s m args below meth c Q cc nL D cl A ad cA Y i n zo_r f) : zi_ok p l e R s m args below meth c 0 0 Q cc nL D cl A ad cA Y i (some (n, .inr (.inr f))) := by
  intro ix pc ls st M H locs ins hi hd hls hst hP T t K hk kk
  unfold zm_iv at hk
  dsimp only at hk
  split at hk
  · next hc =>
    rw [Bool.and_eq_true] at hc
    have h1 := Nat.le_of_ble_eq_true hc.1
    have h2 := Nat.le_of_ble_eq_true hc.2
    obtain ⟨q, hq, hk⟩ := Option.bind_eq_some_iff.mp hk
    obtain ⟨e1, e2⟩ := zj_split h1
    have := h ix pc ls (st.take n).reverse (st.drop n) M H locs ins q hi hd hls (fun v hv => hst v (List.mem_of_mem_take (List.mem_reverse.mp hv))) (by rw [List.length_drop]; omega) e2 hP hq (fun H' locs' hv' hP' => kk _ _ H' locs' hk (fun v hv => by
      rcases List.mem_cons.mp hv with rfl | hv
      · exact hv' _ rfl
      · exact hst v (List.mem_of_mem_drop hv)) hP')
    rw [e1] at this
    exact this
  · cases hk
end ZC
