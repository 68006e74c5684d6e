section ZD
variable {l : Launch} {cc : ByteArray} {nL : Nat} {cl : List vw_C} {Y : zm_Y} {own : String} {Ts : List Cond} {Zs : zk_Zs} {d d' : Nat × Nat} {y : MethodName} {cy : ByteArray} {maxL : Nat} {ret : Option FieldType} {T : Type} {out : T → Option zm_V × zm_M} {f F : List zm_V → zm_M → Option T} {i n ci : Nat}
/-- a rule of a call that holds in every frame of the caller -/
def zj_al (Ts : List Cond) (Y : zm_Y) (cl : List vw_C) (Zs : zk_Zs) (l : Launch) (d : Nat × Nat) (own : String) (cc : ByteArray) (nL : Nat) (i n : Nat) {T : Type} (out : T → Option zm_V × zm_M) (f : List zm_V → zm_M → Option T) : Prop :=
  ∀ (p : Program) (e : Env) (s : State) (m : MethodId) (args : Array Value) (below : List Frame) (meth : Method) (c : Code) (Q : State → Prop) (D : va_G) (tys : List (ClassId × FieldType)) (ad : Nat × Nat → Nat) (cA : Nat → ClassId) (A : Nat → Prop), CallFix p m c cc nL s args Ts own → zg_ok Y cl tys ad cA A → va_K D cl tys s → zk_cs Y Zs ad A s s.heap → zk_tb Ts s →
    zj_ok p l e (zk_rm d) s m args below meth c Q cc nL D cl A ad cA Y i n out f
theorem zj_al_i {f : List zm_V → zm_M → Option (Int32 × zm_M)} (h : zj_al Ts Y cl Zs l d own cc nL i n zo_i f) : zi_al Ts Y cl Zs l d own cc nL i (some (n, .inl f)) :=
  fun p e s m args below meth c Q D tys ad cA A a1 a2 a3 a4 a5 => zj_i (h p e s m args below meth c Q D tys ad cA A a1 a2 a3 a4 a5)
theorem zj_al_v {f : List zm_V → zm_M → Option zm_M} (h : zj_al Ts Y cl Zs l d own cc nL i n zo_v f) : zi_al Ts Y cl Zs l d own cc nL i (some (n, .inr (.inl f))) :=
  fun p e s m args below meth c Q D tys ad cA A a1 a2 a3 a4 a5 => zj_v (h p e s m args below meth c Q D tys ad cA A a1 a2 a3 a4 a5)
theorem zj_al_r {f : List zm_V → zm_M → Option ((Nat × Nat) × zm_M)} (h : zj_al Ts Y cl Zs l d own cc nL i n zo_r f) : zi_al Ts Y cl Zs l d own cc nL i (some (n, .inr (.inr f))) :=
  fun p e s m args below meth c Q D tys ad cA A a1 a2 a3 a4 a5 => zj_r (h p e s m args below meth c Q D tys ad cA A a1 a2 a3 a4 a5)
theorem zi_al_none : zi_al Ts Y cl Zs l d own cc nL i none := by
  intro p e s m args below meth c Q D tys ad cA A a1 a2 a3 a4 a5 ix pc ls st M H locs ins hi hd hls hst hP T t K hk kk
  cases hk
theorem zi_al_up {L : List (Nat × zm_F)} (h : ∀ q ∈ L, zi_al Ts Y cl Zs l d own cc nL q.1 (some q.2)) (i : Nat) : zi_al Ts Y cl Zs l d own cc nL i (zl_up L i) := by
  cases hu : zl_up L i with
  | none => exact zi_al_none
  | some a => exact h (i, a) (zl_up_mem hu)
/-- what a call needs of the callee's name -/
def zn_ok (y : MethodName) (n : Nat) : Prop := y.cls ≠ "java/lang/invoke/MethodHandle" ∧ y.cls ≠ "java/lang/invoke/VarHandle" ∧ (parseMethodDescriptor y.desc).map (fun d => d.parameters.length) = some n
theorem zk_good (hTs : ∀ w ∈ Ts, zk_nw w = true) (hc : Cond.code y cy maxL ret ∈ Ts) : GoodIn Ts [Cond.code y cy maxL ret] := by
  intro w hw
  rw [List.mem_singleton] at hw
  subst hw
  exact ⟨hc, Or.inl (hTs _ hc)⟩
theorem zk_rec {s : State} {H : Heap} {D : va_G} {tys : List (ClassId × FieldType)} {ad : Nat × Nat → Nat} {cA : Nat → ClassId} {A : Nat → Prop} {M : zm_M} {locs : List Loc} {H0 : Heap} (hG : zg_ok Y cl tys ad cA A) (hK : va_K D cl tys s) (hP : zs_at D cl Y ad cA A H0 M H locs) {r : Nat × Nat} (hr : zy_ok Y r) (hk : zy_k Y r.1 = 0) (hc : zy_c Y r.1 = ci) {C : String} (hC : (cl[ci]?).map (fun q => q.1) = some C) : ∃ cell : Cell, H[ad r]? = some cell ∧ cell.vm.isStatics = false ∧ s.vm.findClass C = some cell.cls := by
  have hdm := zs_dom hr hk (by decide)
  obtain ⟨q0, hq0⟩ := zc_at (ad := ad) (cA := cA) (M := M) (zy_d_mem.mpr hdm)
  have he : zc_e Y ad cA M r = .inr (ci, (List.range (zy_n Y r.1)).map fun k => match zy_r Y r.1 r.2 k with
      | none => .int (M r.1 r.2 k)
      | some q => .ref (ad q)) := by
    unfold zc_e
    rw [hk, hc]
    rfl
  rw [he] at hq0
  cases hcl : cl[ci]? with
  | none => rw [hcl] at hC; cases hC
  | some q =>
    rw [hcl] at hC
    cases hC
    exact va_recv hK hP.1 hcl hq0
/-- an instance method of the same class or a package mate's -/
theorem zj_V (hTs : ∀ w ∈ Ts, zk_nw w = true) (hM : zk_me Ts Y cl Zs l d' y cy maxL ret out (zm_fv Y ci n F)) (hl : Cond.methodLink own i y ∈ Ts) (hi : Cond.instanceMethod y ∈ Ts) (hs : Cond.selects y.cls y y ∈ Ts) (hin : Cond.initialized y.cls ∈ Ts) (hc : Cond.code y cy maxL ret ∈ Ts) (hC : (cl[ci]?).map (fun q => q.1) = some y.cls) (hn : zn_ok y n) (hR : d'.1 + 1 ≤ d.1 ∧ 8 + (maxL + 11) + d'.2 ≤ d.2) : zj_al Ts Y cl Zs l d own cc nL (2 * i + 1) (n + 1) out (zm_fv Y ci n F) := by
  intro p e s m args below meth c Q D tys ad cA A S hG hK hcs htb ix pc ls av rs M H locs ins q hins hd hls hv hrs hav hP hf kk
  obtain ⟨r, as, rfl, hasn, hk0, hkc, hf'⟩ := zm_fv_spec hf
  have hr : zy_ok Y r := hv (.inr r) List.mem_cons_self
  have hcb : CallB (zk_rm d) s args own i y cy maxL ret [Cond.code y cy maxL ret] (zk_rm d') 0 0 n := callB_of n S.2.2.2.2 (zk_good hTs hc) rfl rfl rfl (S.2.2.2.2 _ hin) (S.2.2.2.2 _ hl) hn hR
  have hM' := hM D tys ad cA A hG (.inr r :: as) M q hv hf
  rcases hins with ⟨hix, rfl⟩ | ⟨hix, rfl⟩
  · obtain rfl : ix = i := by omega
    have hst : ((.inr r :: as).reverse ++ rs).map (zc_v ad) = (as.map (zc_v ad)).reverse ++ .ref (ad r) :: rs.map (zc_v ad) := by simp [zc_v]
    rw [hst]
    refine zk_call (va_runV (As := as.map (zc_v ad)) (b := ad r) (rest := rs.map (zc_v ad)) (C := y.cls) S hM' ⟨hcb, S.2.2.2.2 _ hi, S.2.2.2.2 _ hs⟩ ⟨zk_blind hTs _, zk_rec hG hK hP hr hk0 hkc hC, fun U hU hW => ⟨rfl, zk_pre hTs hK hcs htb hP hU hW⟩⟩ rfl (by rw [List.length_map]; exact hasn) hls rfl (lv_room (by rw [zk_sum]; exact hrs)) hd ⟨Nat.zero_le _, Nat.zero_le _⟩) hP.2 (fun H1 locs1 hvv hP1 => ?_)
    have := kk H1 locs1 hvv hP1
    rw [List.map_append] at this
    cases ho : (out q).1 with
    | none => rw [ho] at this; exact this
    | some w => rw [ho] at this; exact this
  · omega
/-- a nest mate's instance method -/
theorem zj_VN (hTs : ∀ w ∈ Ts, zk_nw w = true) {host : String} (hM : zk_me Ts Y cl Zs l d' y cy maxL ret out (zm_fv Y ci n F)) (hl : Cond.methodLinkNest own i y host ∈ Ts) (hi : Cond.instanceMethod y ∈ Ts) (hs : Cond.selects y.cls y y ∈ Ts) (hin : Cond.initialized y.cls ∈ Ts) (hc : Cond.code y cy maxL ret ∈ Ts) (hC : (cl[ci]?).map (fun q => q.1) = some y.cls) (hn : zn_ok y n) (hR : d'.1 + 1 ≤ d.1 ∧ 8 + (maxL + 11) + d'.2 ≤ d.2) : zj_al Ts Y cl Zs l d own cc nL (2 * i + 1) (n + 1) out (zm_fv Y ci n F) := by
  intro p e s m args below meth c Q D tys ad cA A S hG hK hcs htb ix pc ls av rs M H locs ins q hins hd hls hv hrs hav hP hf kk
  obtain ⟨r, as, rfl, hasn, hk0, hkc, hf'⟩ := zm_fv_spec hf
  have hr : zy_ok Y r := hv (.inr r) List.mem_cons_self
  have hM' := hM D tys ad cA A hG (.inr r :: as) M q hv hf
  rcases hins with ⟨hix, rfl⟩ | ⟨hix, rfl⟩
  · obtain rfl : ix = i := by omega
    have hst : ((.inr r :: as).reverse ++ rs).map (zc_v ad) = (as.map (zc_v ad)).reverse ++ .ref (ad r) :: rs.map (zc_v ad) := by simp [zc_v]
    rw [hst]
    refine zk_call (va_runVN (As := as.map (zc_v ad)) (b := ad r) (rest := rs.map (zc_v ad)) (C := y.cls) S hM' ⟨va_cnB (R := zk_rm d) (rm := zk_rm d') n S.2.2.2.2 (zk_good hTs hc) rfl rfl rfl (htb _ hl) (S.2.2.2.2 _ hin) hn hR, S.2.2.2.2 _ hi, S.2.2.2.2 _ hs⟩ ⟨zk_blind hTs _, zk_rec hG hK hP hr hk0 hkc hC, fun U hU hW => ⟨rfl, zk_pre hTs hK hcs htb hP hU hW⟩⟩ rfl (by rw [List.length_map]; exact hasn) hls rfl (lv_room (by rw [zk_sum]; exact hrs)) hd ⟨Nat.zero_le _, Nat.zero_le _⟩) hP.2 (fun H1 locs1 hvv hP1 => ?_)
    have := kk H1 locs1 hvv hP1
    rw [List.map_append] at this
    cases ho : (out q).1 with
    | none => rw [ho] at this; exact this
    | some w => rw [ho] at this; exact this
  · omega
/-- a static method -/
theorem zj_S (hTs : ∀ w ∈ Ts, zk_nw w = true) (hM : zk_me Ts Y cl Zs l d' y cy maxL ret out (zm_fs n F)) (hl : Cond.methodLink own i y ∈ Ts) (hi : Cond.static y ∈ Ts) (hin : Cond.initialized y.cls ∈ Ts) (hc : Cond.code y cy maxL ret ∈ Ts) (hn : zn_ok y n) (hR : d'.1 + 1 ≤ d.1 ∧ 8 + (maxL + 11) + d'.2 ≤ d.2) : zj_al Ts Y cl Zs l d own cc nL (2 * i) n out (zm_fs n F) := by
  intro p e s m args below meth c Q D tys ad cA A S hG hK hcs htb ix pc ls av rs M H locs ins q hins hd hls hv hrs hav hP hf kk
  have hcb : CallB (zk_rm d) s args own i y cy maxL ret [Cond.code y cy maxL ret] (zk_rm d') 0 0 n := callB_of n S.2.2.2.2 (zk_good hTs hc) rfl rfl rfl (S.2.2.2.2 _ hin) (S.2.2.2.2 _ hl) hn hR
  have hM' := hM D tys ad cA A hG av M q hv hf
  rcases hins with ⟨hix, rfl⟩ | ⟨hix, rfl⟩
  · omega
  · obtain rfl : ix = i := by omega
    have hst : (av.reverse ++ rs).map (zc_v ad) = (av.map (zc_v ad)).reverse ++ rs.map (zc_v ad) := by simp
    rw [hst]
    refine zk_call (va_runS (As := av.map (zc_v ad)) (rest := rs.map (zc_v ad)) S hM' ⟨hcb, S.2.2.2.2 _ hi⟩ ⟨zk_blind hTs _, fun U hU hW => ⟨rfl, zk_pre hTs hK hcs htb hP hU hW⟩⟩ rfl (by rw [List.length_map]; exact hav) hls rfl (lv_room (by rw [zk_sum]; exact hrs)) hd ⟨Nat.zero_le _, Nat.zero_le _⟩) hP.2 (fun H1 locs1 hvv hP1 => ?_)
    have := kk H1 locs1 hvv hP1
    rw [List.map_append] at this
    cases ho : (out q).1 with
    | none => rw [ho] at this; exact this
    | some w => rw [ho] at this; exact this
/-- a nest mate's static method -/
theorem zj_SN (hTs : ∀ w ∈ Ts, zk_nw w = true) {host : String} (hM : zk_me Ts Y cl Zs l d' y cy maxL ret out (zm_fs n F)) (hl : Cond.methodLinkNest own i y host ∈ Ts) (hi : Cond.static y ∈ Ts) (hin : Cond.initialized y.cls ∈ Ts) (hc : Cond.code y cy maxL ret ∈ Ts) (hn : zn_ok y n) (hR : d'.1 + 1 ≤ d.1 ∧ 8 + (maxL + 11) + d'.2 ≤ d.2) : zj_al Ts Y cl Zs l d own cc nL (2 * i) n out (zm_fs n F) := by
  intro p e s m args below meth c Q D tys ad cA A S hG hK hcs htb ix pc ls av rs M H locs ins q hins hd hls hv hrs hav hP hf kk
  have hM' := hM D tys ad cA A hG av M q hv hf
  rcases hins with ⟨hix, rfl⟩ | ⟨hix, rfl⟩
  · omega
  · obtain rfl : ix = i := by omega
    have hst : (av.reverse ++ rs).map (zc_v ad) = (av.map (zc_v ad)).reverse ++ rs.map (zc_v ad) := by simp
    rw [hst]
    refine zk_call (va_runSN (As := av.map (zc_v ad)) (rest := rs.map (zc_v ad)) S hM' ⟨va_cnB (R := zk_rm d) (rm := zk_rm d') n S.2.2.2.2 (zk_good hTs hc) rfl rfl rfl (htb _ hl) (S.2.2.2.2 _ hin) hn hR, S.2.2.2.2 _ hi, trivial⟩ ⟨zk_blind hTs _, fun U hU hW => ⟨rfl, zk_pre hTs hK hcs htb hP hU hW⟩⟩ rfl (by rw [List.length_map]; exact hav) hls rfl (lv_room (by rw [zk_sum]; exact hrs)) hd ⟨Nat.zero_le _, Nat.zero_le _⟩) hP.2 (fun H1 locs1 hvv hP1 => ?_)
    have := kk H1 locs1 hvv hP1
    rw [List.map_append] at this
    cases ho : (out q).1 with
    | none => rw [ho] at this; exact this
    | some w => rw [ho] at this; exact this
end ZD
/-! System.arraycopy between arrays of ints -/
def zm_ac (Y : zm_Y) (av : List zm_V) (M : zm_M) : Option zm_M := match av with
  | [.inr a, .inl sp, .inr b, .inl dp, .inl n] => match Nat.beq (zy_k Y a.1) 1 && Nat.beq (zy_k Y b.1) 1 with
    | true => if sp < 0 ∨ dp < 0 ∨ n < 0 ∨ zy_n Y a.1 < sp.toNatClampNeg + n.toNatClampNeg ∨ zy_n Y b.1 < dp.toNatClampNeg + n.toNatClampNeg then none else some (zm_ua M b.1 b.2 (va_cpy (M a.1 a.2) (M b.1 b.2) sp.toNatClampNeg dp.toNatClampNeg n.toNatClampNeg))
    | false => none
  | _ => none
theorem zc_e_na {Y : zm_Y} {ad : Nat × Nat → Nat} {cA : Nat → ClassId} {M : zm_M} {r x : Nat × Nat} {g : Nat → Int32} (h : x ≠ r) : zc_e Y ad cA (zm_ua M r.1 r.2 g) x = zc_e Y ad cA M x := by
  have hf : zm_ua M r.1 r.2 g x.1 x.2 = M x.1 x.2 := funext fun k => by
    unfold zm_ua
    by_cases h1 : x.1 = r.1
    · by_cases h2 : x.2 = r.2
      · exact absurd (Prod.ext h1 h2) h
      · simp [h2]
    · simp [h1]
  unfold zc_e
  rw [hf]
theorem zj_ac {l : Launch} {cc : ByteArray} {nL : Nat} {cl : List vw_C} {Y : zm_Y} {own : String} {Ts : List Cond} {Zs : zk_Zs} {d : Nat × Nat} {i : Nat} (hl : Cond.methodLink own i arraycopyName ∈ Ts) (hna : Cond.native arraycopyName ∈ Ts) (hi : Cond.static arraycopyName ∈ Ts) (hin : Cond.initialized "java/lang/System" ∈ Ts) (hR : 1 ≤ d.1 ∧ 26 ≤ d.2) : zj_al Ts Y cl Zs l d own cc nL (2 * i) 5 zo_v (zm_ac Y) := by
  intro p e s m args below meth c Q D tys ad cA A S hG hK hcs htb ix pc ls av rs M H locs ins q hins hd hls hv hrs hav hP hf kk
  rcases hins with ⟨hix, rfl⟩ | ⟨hix, rfl⟩
  · omega
  · obtain rfl : ix = i := by omega
    unfold zm_ac at hf
    split at hf
    · next a sp b dp n =>
      split at hf
      · next hc =>
        rw [Bool.and_eq_true, Nat.beq_eq, Nat.beq_eq] at hc
        split at hf
        · cases hf
        · next hb =>
          simp only [not_or] at hb
          obtain ⟨b1, b2, b3, b4, b5⟩ := hb
          cases hf
          have ha := zs_dom (hv (.inr a) List.mem_cons_self) hc.1 (by decide)
          have hbd := zs_dom (hv (.inr b) (by simp)) hc.2 (by decide)
          obtain ⟨q0, hq0⟩ := zc_at (ad := ad) (cA := cA) (M := M) (zy_d_mem.mpr ha)
          obtain ⟨q1, hq1⟩ := zc_at (ad := ad) (cA := cA) (M := M) (zy_d_mem.mpr hbd)
          have hq1' := hq1
          rw [zs_arr (Or.inl hc.1)] at hq0
          rw [zs_arr (Or.inl hc.2)] at hq1'
          obtain ⟨t0, ht0⟩ := hG.2.2.1 a.1 ha.1 hc.1
          obtain ⟨t1, ht1⟩ := hG.2.2.1 b.1 hbd.1 hc.2
          have hst : (([.inr a, .inl sp, .inr b, .inl dp, .inl n] : List zm_V).reverse ++ rs).map (zc_v ad) = .int n :: .int dp :: .ref (ad b) :: .int sp :: .ref (ad a) :: rs.map (zc_v ad) := by simp [zc_v]
          rw [hst]
          refine va_copyi S.1 S.2.1 (S.2.2.1.trans hls.symm) S.2.2.2.1 (S.2.2.2.2 _ hl) (S.2.2.2.2 _ hna) (S.2.2.2.2 _ hi) (S.2.2.2.2 _ hin) hK hP.1 (hG.1 M) hP.2 q0 q1 t0 t1 hq0 hq1' ht0 ht1 rfl b1 b2 b3 (by omega) (by omega) (fun _ _ => rfl) hR.1 ?_ hd (fun H1 locs1 h1 h2 h3 => ?_)
          · rw [zk_sum]
            have : nativeFrameWords "java/lang/System" "arraycopy" 5 + 11 = 18 := by decide +kernel
            rw [this]
            exact Nat.le_trans (by omega) hR.2
          · refine kk H1 locs1 (fun w hw => by cases hw) ⟨?_, h3⟩
            have hws := zc_set (M' := zm_ua M b.1 b.2 (va_cpy (M a.1 a.2) (M b.1 b.2) sp.toNatClampNeg dp.toNatClampNeg n.toNatClampNeg)) (hG.1 M) hG.2.1 (zy_d_mem.mpr hbd) hq1 (fun y hy => zc_e_na hy)
            rw [zs_arr (Or.inl hc.2)] at hws
            have he : zm_ua M b.1 b.2 (va_cpy (M a.1 a.2) (M b.1 b.2) sp.toNatClampNeg dp.toNatClampNeg n.toNatClampNeg) b.1 b.2 = va_cpy (M a.1 a.2) (M b.1 b.2) sp.toNatClampNeg dp.toNatClampNeg n.toNatClampNeg := by
              funext k
              unfold zm_ua
              rw [if_pos rfl, if_pos rfl]
            rw [he] at hws
            show va_P D cl (zc_w Y ad cA (zm_ua M b.1 b.2 _)) H1
            rw [← hws]
            exact h1
      · cases hf
    · cases hf
/-! Math.max, Math.min, Math.abs -/
def zm_mx (av : List zm_V) (M : zm_M) : Option (Int32 × zm_M) := match av with
  | [.inl x, .inl y] => some (if x < y then y else x, M)
  | _ => none
def zm_mn (av : List zm_V) (M : zm_M) : Option (Int32 × zm_M) := match av with
  | [.inl x, .inl y] => some (if y < x then y else x, M)
  | _ => none
def zm_ab (av : List zm_V) (M : zm_M) : Option (Int32 × zm_M) := match av with
  | [.inl x] => some (if 0 ≤ x then x else 0 - x, M)
  | _ => none
section ZM
variable {l : Launch} {cc : ByteArray} {nL : Nat} {cl : List vw_C} {Y : zm_Y} {own : String} {Ts : List Cond} {Zs : zk_Zs} {d : Nat × Nat} {i : Nat}
theorem zj_mx (hl : Cond.methodLink own i Lib.Math.max.name ∈ Ts) (hi : Cond.static Lib.Math.max.name ∈ Ts) (hin : Cond.initialized "java/lang/Math" ∈ Ts) (hc : Cond.code Lib.Math.max.name Lib.Math.max.code 2 (some .int) ∈ Ts) (hR : 1 ≤ d.1 ∧ 21 ≤ d.2) : zj_al Ts Y cl Zs l d own cc nL (2 * i) 2 zo_i zm_mx := by
  intro p e s m args below meth c Q D tys ad cA A S hG hK hcs htb ix pc ls av rs M H locs ins q hins hd hls hv hrs hav hP hf kk
  rcases hins with ⟨hix, rfl⟩ | ⟨hix, rfl⟩
  · omega
  · obtain rfl : ix = i := by omega
    unfold zm_mx at hf
    split at hf
    · next x y =>
      cases hf
      have hst : (([.inl x, .inl y] : List zm_V).reverse ++ rs).map (zc_v ad) = .int y :: .int x :: rs.map (zc_v ad) := by simp [zc_v]
      rw [hst]
      exact va_mmax S.1 S.2.1 (S.2.2.1.trans hls.symm) S.2.2.2.1 (S.2.2.2.2 _ hl) (S.2.2.2.2 _ hi) (S.2.2.2.2 _ hin) (S.2.2.2.2 _ hc) hR.1 (by rw [zk_sum]; exact Nat.le_trans (by omega) hR.2) (Nat.zero_le _) (Nat.zero_le _) hd (kk H locs (fun w hw => by cases hw; trivial) hP)
    · cases hf
theorem zj_mn (hl : Cond.methodLink own i Lib.Math.min.name ∈ Ts) (hi : Cond.static Lib.Math.min.name ∈ Ts) (hin : Cond.initialized "java/lang/Math" ∈ Ts) (hc : Cond.code Lib.Math.min.name Lib.Math.min.code 2 (some .int) ∈ Ts) (hR : 1 ≤ d.1 ∧ 21 ≤ d.2) : zj_al Ts Y cl Zs l d own cc nL (2 * i) 2 zo_i zm_mn := by
  intro p e s m args below meth c Q D tys ad cA A S hG hK hcs htb ix pc ls av rs M H locs ins q hins hd hls hv hrs hav hP hf kk
  rcases hins with ⟨hix, rfl⟩ | ⟨hix, rfl⟩
  · omega
  · obtain rfl : ix = i := by omega
    unfold zm_mn at hf
    split at hf
    · next x y =>
      cases hf
      have hst : (([.inl x, .inl y] : List zm_V).reverse ++ rs).map (zc_v ad) = .int y :: .int x :: rs.map (zc_v ad) := by simp [zc_v]
      rw [hst]
      exact va_mmin S.1 S.2.1 (S.2.2.1.trans hls.symm) S.2.2.2.1 (S.2.2.2.2 _ hl) (S.2.2.2.2 _ hi) (S.2.2.2.2 _ hin) (S.2.2.2.2 _ hc) hR.1 (by rw [zk_sum]; exact Nat.le_trans (by omega) hR.2) (Nat.zero_le _) (Nat.zero_le _) hd (kk H locs (fun w hw => by cases hw; trivial) hP)
    · cases hf
theorem zj_ab (hl : Cond.methodLink own i Lib.Math.abs.name ∈ Ts) (hi : Cond.static Lib.Math.abs.name ∈ Ts) (hin : Cond.initialized "java/lang/Math" ∈ Ts) (hc : Cond.code Lib.Math.abs.name Lib.Math.abs.code 1 (some .int) ∈ Ts) (hR : 1 ≤ d.1 ∧ 21 ≤ d.2) : zj_al Ts Y cl Zs l d own cc nL (2 * i) 1 zo_i zm_ab := by
  intro p e s m args below meth c Q D tys ad cA A S hG hK hcs htb ix pc ls av rs M H locs ins q hins hd hls hv hrs hav hP hf kk
  rcases hins with ⟨hix, rfl⟩ | ⟨hix, rfl⟩
  · omega
  · obtain rfl : ix = i := by omega
    unfold zm_ab at hf
    split at hf
    · next x =>
      cases hf
      have hst : (([.inl x] : List zm_V).reverse ++ rs).map (zc_v ad) = .int x :: rs.map (zc_v ad) := by simp [zc_v]
      rw [hst]
      exact va_mabs S.1 S.2.1 (S.2.2.1.trans hls.symm) S.2.2.2.1 (S.2.2.2.2 _ hl) (S.2.2.2.2 _ hi) (S.2.2.2.2 _ hin) (S.2.2.2.2 _ hc) hR.1 (by rw [zk_sum]; exact Nat.le_trans (by omega) hR.2) (Nat.zero_le _) (Nat.zero_le _) hd (kk H locs (fun w hw => by cases hw; trivial) hP)
    · cases hf
end ZM
