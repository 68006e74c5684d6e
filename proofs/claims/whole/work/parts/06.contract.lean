/-! CONTRACTS of methods that the abstract machine runs -/
def zk_rm (d : Nat × Nat) : Room := { frames := d.1, cells := 0, slots := 0, locals := d.2 }
abbrev zk_Zs : Type := List (String × String × String × (Nat × Nat))
def zk_cs (Y : zm_Y) (Zs : zk_Zs) (ad : Nat × Nat → Nat) (A : Nat → Prop) (U : State) (H : Heap) : Prop := (∀ r : Nat × Nat, zy_k Y r.1 = 4 → va_T .int (ad r) (zy_n Y r.1) (fun j => .int (zy_t Y r.1 j)) A U H) ∧ ∀ z ∈ Zs, va_Z z.1 z.2.1 z.2.2.1 (.ref (ad z.2.2.2)) A U H
theorem zk_cs.moved {Y : zm_Y} {Zs : zk_Zs} {ad : Nat × Nat → Nat} {A : Nat → Prop} {u U : State} {H : Heap} (hvm : u.vm.Alike U.vm) (h : zk_cs Y Zs ad A u H) : zk_cs Y Zs ad A U H := ⟨fun r hr => (h.1 r hr).moved hvm, fun z hz => (h.2 z hz).moved hvm⟩
theorem zk_cs.kept {Y : zm_Y} {Zs : zk_Zs} {ad : Nat × Nat → Nat} {A : Nat → Prop} {U : State} {H H1 : Heap} (h : zk_cs Y Zs ad A U H) (hq : ∀ a : Nat, a < H.size → ¬ A a → H1[a]? = H[a]?) : zk_cs Y Zs ad A U H1 := ⟨fun r hr => (h.1 r hr).kept hq, fun z hz => (h.2 z hz).kept hq⟩
def zk_nw (w : Cond) : Bool := match w with
  | .fieldLinkNest _ _ _ _ _ _ => true
  | .methodLinkNest _ _ _ _ => true
  | w => w.onTables && w.keeps
def zk_tb (Ts : List Cond) (U : State) : Prop := ∀ w ∈ Ts, va_Nw w U
theorem zk_tb.warm {Ts : List Cond} (hT : ∀ w ∈ Ts, zk_nw w = true) {s U : State} (hW : s.WarmedH U.vm) (h : zk_tb Ts s) : zk_tb Ts U := by
  intro w hw
  have h1 := hT w hw
  have h2 := h w hw
  unfold zk_nw at h1
  split at h1
  · exact va_Nw.warmF hW h2
  · exact va_Nw.warmM hW h2
  · exact word_at hW (Or.inl h1) h2
theorem zk_tb.use {Ts : List Cond} (hT : ∀ w ∈ Ts, zk_nw w = true) {s : State} (args : Array Value) (h : zk_tb Ts s) : ∀ w ∈ Ts, w.before args s = true := by
  intro w hw
  have h1 := hT w hw
  have h2 := h w hw
  unfold zk_nw at h1
  split at h1
  · exact va_Nw.use rfl h2
  · exact va_Nw.use rfl h2
  · exact va_Nw.use (Bool.and_eq_true _ _ ▸ h1 : _ ∧ _).1 h2
def zk_pr (Ts : List Cond) (Y : zm_Y) (cl : List vw_C) (Zs : zk_Zs) (D : va_G) (tys : List (ClassId × FieldType)) (ad : Nat × Nat → Nat) (cA : Nat → ClassId) (A : Nat → Prop) (M : zm_M) (U : State) : Prop := va_P D cl (zc_w Y ad cA M) U.heap ∧ va_K D cl tys U ∧ zk_cs Y Zs ad A U U.heap ∧ zk_tb Ts U
def zk_po (Y : zm_Y) (cl : List vw_C) (D : va_G) (ad : Nat × Nat → Nat) (cA : Nat → ClassId) (A : Nat → Prop) (v : Option zm_V) (M : zm_M) : Array Value → State → Outcome → State → Prop := fun _ st oc t => oc = .returned (v.map (zc_v ad)) ∧ (∀ w ∈ v, zv_ok Y w) ∧ va_P D cl (zc_w Y ad cA M) t.heap ∧ va_F A st t
def zk_me (Ts : List Cond) (Y : zm_Y) (cl : List vw_C) (Zs : zk_Zs) (l : Launch) (d : Nat × Nat) (y : MethodName) (cc : ByteArray) (maxL : Nat) (ret : Option FieldType) {T : Type} (out : T → Option zm_V × zm_M) (F : List zm_V → zm_M → Option T) : Prop :=
  ∀ (D : va_G) (tys : List (ClassId × FieldType)) (ad : Nat × Nat → Nat) (cA : Nat → ClassId) (A : Nat → Prop), zg_ok Y cl tys ad cA A → ∀ (av : List zm_V) (M : zm_M) (t : T), (∀ v ∈ av, zv_ok Y v) → F av M = some t →
    Met l y [Cond.code y cc maxL ret] (zk_rm d) (va_Pc (av.map (zc_v ad)) (zk_pr Ts Y cl Zs D tys ad cA A M)) (zk_po Y cl D ad cA A (out t).1 (out t).2) 0 0 A
def zi_al (Ts : List Cond) (Y : zm_Y) (cl : List vw_C) (Zs : zk_Zs) (l : Launch) (d : Nat × Nat) (own : String) (cc : ByteArray) (nL : Nat) (i : Nat) (F : Option zm_F) : Prop :=
  ∀ (p : Program) (e : Env) (s : State) (m : MethodId) (args : Array Value) (below : List Frame) (meth : Method) (c : Code) (Q : State → Prop) (D : va_G) (tys : List (ClassId × FieldType)) (ad : Nat × Nat → Nat) (cA : Nat → ClassId) (A : Nat → Prop), CallFix p m c cc nL s args Ts own → zg_ok Y cl tys ad cA A → va_K D cl tys s → zk_cs Y Zs ad A s s.heap → zk_tb Ts s →
    zi_ok p l e (zk_rm d) s m args below meth c 0 0 Q cc nL D cl A ad cA Y i F
/-- how a method ends -/
def zr_ok (ret : Option FieldType) {T : Type} (rt : Option zm_V → zm_M → Option T) (out : T → Option zm_V × zm_M) : Prop := ∀ v M t, rt v M = some t → out t = (v, M) ∧ ((ret = none ∧ v = none) ∨ (ret = some .int ∧ ∃ x, v = some (.inl x)) ∨ (ret = some .boolean ∧ ∃ x, v = some (.inl x) ∧ (x = 0 ∨ x = 1)) ∨ (∃ C, ret = some (.object C) ∧ ∃ r, v = some (.inr r)))
def zr_i (v : Option zm_V) (M : zm_M) : Option (Int32 × zm_M) := match v with
  | some (.inl x) => some (x, M)
  | _ => none
def zr_z (v : Option zm_V) (M : zm_M) : Option (Int32 × zm_M) := match v with
  | some (.inl x) => if x = 0 ∨ x = 1 then some (x, M) else none
  | _ => none
def zr_v (v : Option zm_V) (M : zm_M) : Option zm_M := match v with
  | none => some M
  | _ => none
def zr_r (v : Option zm_V) (M : zm_M) : Option ((Nat × Nat) × zm_M) := match v with
  | some (.inr r) => some (r, M)
  | _ => none
def zo_i (t : Int32 × zm_M) : Option zm_V × zm_M := (some (.inl t.1), t.2)
def zo_v (M : zm_M) : Option zm_V × zm_M := (none, M)
def zo_r (t : (Nat × Nat) × zm_M) : Option zm_V × zm_M := (some (.inr t.1), t.2)
theorem zr_i_ok : zr_ok (some .int) zr_i zo_i := by
  intro v M t h
  unfold zr_i at h
  split at h
  · cases h; exact ⟨rfl, Or.inr (Or.inl ⟨rfl, _, rfl⟩)⟩
  · cases h
theorem zr_z_ok : zr_ok (some .boolean) zr_z zo_i := by
  intro v M t h
  unfold zr_z at h
  split at h
  · split at h
    · next hx => cases h; exact ⟨rfl, Or.inr (Or.inr (Or.inl ⟨rfl, _, rfl, hx⟩))⟩
    · cases h
  · cases h
theorem zr_v_ok : zr_ok none zr_v zo_v := by
  intro v M t h
  unfold zr_v at h
  split at h
  · cases h; exact ⟨rfl, Or.inl ⟨rfl, rfl⟩⟩
  · cases h
theorem zr_r_ok (C : String) : zr_ok (some (.object C)) zr_r zo_r := by
  intro v M t h
  unfold zr_r at h
  split at h
  · cases h; exact ⟨rfl, Or.inr (Or.inr (Or.inr ⟨C, rfl, _, rfl⟩))⟩
  · cases h
def zm_lo (av : List zm_V) (nL : Nat) : zm_L := av.map some ++ List.replicate (nL - av.length) none
theorem zk_ar (ad : Nat × Nat → Nat) : ∀ (av : List zm_V) (k i : Nat) (v : zm_V), av[i]? = some v → (k + i, zc_v ad v) ∈ lv_args k (av.map (zc_v ad))
  | [], k, i, v, h => by simp at h
  | a :: av, k, 0, v, h => by
    simp at h
    subst h
    exact List.mem_cons_self
  | a :: av, k, i + 1, v, h => by
    have h1 : av[i]? = some v := by simpa using h
    have h2 := zk_ar ad av (k + 1) i v h1
    refine List.mem_cons_of_mem _ ?_
    rw [zc_v_cat, if_neg (by decide)]
    rw [show k + (i + 1) = k + 1 + i by omega]
    exact h2
theorem zk_sl (ad : Nat × Nat → Nat) (av : List zm_V) : (lg_sl (av.map (zc_v ad))).length = av.length := by
  induction av with
  | nil => rfl
  | cons a av ih =>
    unfold lg_sl at ih ⊢
    rw [List.map_cons, List.flatMap_cons, List.length_append, ih, zc_v_cat, if_neg (by decide)]
    simp [Nat.add_comm]
theorem zk_en {Y : zm_Y} {ad : Nat × Nat → Nat} {av : List zm_V} {nL : Nat} (hle : av.length ≤ nL) (hv : ∀ v ∈ av, zv_ok Y v) {ls : Array Slot} (h : lv_has ls nL (lv_args 0 (av.map (zc_v ad)))) : zl_ok Y ad ls nL (zm_lo av nL) := by
  refine ⟨by simp [zm_lo]; omega, h.1, h.2.1, fun i v hi => ?_⟩
  have hlt : i < av.length := by
    rcases Nat.lt_or_ge i av.length with q | q
    · exact q
    · unfold zm_lo at hi
      rw [List.getElem?_append_right (by simpa using q)] at hi
      have := List.mem_of_getElem? hi
      simp at this
  unfold zm_lo at hi
  rw [List.getElem?_append_left (by simpa using hlt), List.getElem?_map] at hi
  cases ha : av[i]? with
  | none => rw [ha] at hi; cases hi
  | some w =>
    rw [ha] at hi
    cases hi
    have h2 := zk_ar ad av 0 i v ha
    rw [Nat.zero_add] at h2
    exact ⟨h.2.2 _ h2, hv v (List.mem_of_getElem? ha)⟩
set_option maxHeartbeats 4000000 in
theorem zk_run {Ts : List Cond} {Y : zm_Y} {cl : List vw_C} {Zs : zk_Zs} {l : Launch} {d : Nat × Nat} {y : MethodName} {cc : ByteArray} {maxL : Nat} {ret : Option FieldType} {T : Type} {out : T → Option zm_V × zm_M} {rt : Option zm_V → zm_M → Option T} {code : zm_C} {X : zm_X} {F : List zm_V → zm_M → Option T} (N : Nat)
    (hTs : ∀ w ∈ Ts, zk_nw w = true) (hy : plainName y.cls = true) (hen : ∀ q ∈ code, zm_en cc q) (hF : zf_ok Y cl Ts y.cls X.1) (hC : ∀ i v, X.2.1 i = some v → Cond.constant y.cls i v ∈ Ts)
    (hZ : ∀ i q, X.2.2.1 i = some q → zy_ok Y q ∧ ∃ C n d, (C, n, d, q) ∈ Zs ∧ (Cond.fieldLink y.cls i C n d ∈ Ts ∨ ∃ host, Cond.fieldLinkNest y.cls i C n d host ∈ Ts))
    (hI : ∀ i, zi_al Ts Y cl Zs l d y.cls cc maxL i (X.2.2.2 i)) (hr : zr_ok ret rt out) (hFe : ∀ av M t, F av M = some t → av.length ≤ maxL ∧ zm_rn Y X rt code N 0 (zm_lo av maxL) [] M = some t) : zk_me Ts Y cl Zs l d y cc maxL ret out F := by
  intro D tys ad cA A hG av M t hv hF0
  obtain ⟨hle, hrun⟩ := hFe av M t hF0
  refine Met.ofW (cc := cc) (maxL := maxL) (ret := ret) hy rfl ?_
  intro p e s m args below meth c s₁ B hml hpre
  obtain ⟨rfl, hP, hK, hcs, htb⟩ := hpre
  have hx := B.exec
  have hb := B.bytes
  have hrt := B.returns
  have hlocks := B.notSynchronized
  have hown : s.vm.findClass y.cls = some m.cls := findClass_of_methodNamed B.named
  have hts := zk_tb.use hTs (av.map (zc_v ad)).toArray htb
  have hl := lv_entry (av.map (zc_v ad)) (n := maxL) (by rw [zk_sl]; exact hle)
  rw [lg_entry_eq]
  generalize (lg_sl (av.map (zc_v ad)) ++ List.replicate (maxL - (lg_sl (av.map (zc_v ad))).length) Slot.unset).toArray = ls at hl ⊢
  refine zm_rn_ok (nL := maxL) (t := t) hx hb hown hts hG hK hF hC hcs.1 (fun i q hq => ?_) (fun i => hI i p e s m _ below meth c _ D tys ad cA A ⟨hx, hb, hml, hown, hts⟩ hG hK hcs htb) ?_ hen N 0 (zm_lo av maxL) [] M s.heap [] ls hrun (zk_en hle hv hl) (fun v hv => by cases hv) ⟨hP, va_S.rf⟩
  · obtain ⟨h1, C, n, d', h2, h3⟩ := hZ i q hq
    exact ⟨h1, C, n, d', hcs.2 _ h2, h3⟩
  · intro v M' H' locs' pc' ls' hrv hvv hP' hdc
    obtain ⟨hout, hcase⟩ := hr v M' t hrv
    have hq : ∀ t' : State, t'.heap = H' → s.WarmedH t'.vm → zk_po Y cl D ad cA A (out t).1 (out t).2 (av.map (zc_v ad)).toArray s (.returned (v.map (zc_v ad))) t' := fun t' ht _ => by
      rw [hout]
      exact ⟨rfl, hvv, by rw [ht]; exact hP'.1, hP'.2.F ht⟩
    rcases hcase with ⟨h1, rfl⟩ | ⟨h1, x, rfl⟩ | ⟨h1, x, rfl, hx01⟩ | ⟨C, h1, r, rfl⟩
    · exact W.vret hx hb (hrt.trans h1) hq hP'.2.2.2 hdc
    · exact W.iret hx hb (hrt.trans h1) hq hP'.2.2.2 hdc
    · exact W.zret hx hb (hrt.trans h1) (by rcases hx01 with rfl | rfl <;> rfl) hq hP'.2.2.2 hdc
    · exact W.aret hx hb (hrt.trans h1) (Or.inl ⟨C, rfl⟩) (Or.inr ⟨_, rfl⟩) hq hP'.2.2.2 hdc
