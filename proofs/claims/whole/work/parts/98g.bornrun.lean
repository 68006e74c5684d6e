/-! contracts of constructors -/
def yb_pr (Ts : List Cond) (cl : List vw_C) (E : String) (D : va_G) (tc : Nat → ClassId) (A : Nat → Prop) (ad : List Nat) (ws : yb_W) (U : State) : Prop := (∀ q, U.heap.size ≤ q → A q) ∧ va_P D cl (yb_w tc ad ws) U.heap ∧ va_D A (yb_w tc ad ws) ∧ va_K D cl (yb_t tc E) U ∧ va_AO E U ∧ zk_tb Ts U
def yb_po (cl : List vw_C) (D : va_G) (tc : Nat → ClassId) (A : Nat → Prop) (ad : List Nat) (w' : yb_W) : Array Value → State → Outcome → State → Prop := fun _ st oc t => oc = .returned none ∧ (∃ ad', (∃ L, ad' = ad ++ L) ∧ ad'.length = w'.length ∧ yb_wf w' ∧ va_P D cl (yb_w tc ad' w') t.heap ∧ va_D A (yb_w tc ad' w')) ∧ va_F A st t
def yb_rm (d : Nat × Nat) (mc ms : Nat) : Room := { frames := d.1, cells := mc, slots := ms, locals := d.2 }
def yb_me (Ts : List Cond) (cl : List vw_C) (E : String) (l : Launch) (d : Nat × Nat) (mc ms : Nat) (y : MethodName) (cc : ByteArray) (maxL : Nat) (F : List zm_V → yb_W → Option yb_W) : Prop :=
  ∀ (D : va_G) (tc : Nat → ClassId) (A : Nat → Prop) (ad : List Nat) (ws w' : yb_W) (av : List zm_V), ad.length = ws.length → yb_wf ws → (∀ v ∈ av, zv_ok (yb_Y ws.length) v) → F av ws = some w' →
    Met l y [Cond.code y cc maxL none] (yb_rm d mc ms) (va_Pc (av.map (zc_v (yb_a ad))) (yb_pr Ts cl E D tc A ad ws)) (yb_po cl D tc A ad w') mc ms A
def yi_al (Ts : List Cond) (cl : List vw_C) (E : String) (l : Launch) (R : Room) (own : String) (cc : ByteArray) (nL : Nat) (i : Nat) (f : yb_F) : Prop :=
  ∀ (p : Program) (e : Env) (s : State) (m : MethodId) (args : Array Value) (below : List Frame) (meth : Method) (c : Code) (Q : State → Prop) (D : va_G) (tc : Nat → ClassId) (A : Nat → Prop), CallFix p m c cc nL s args Ts own → va_K D cl (yb_t tc E) s → va_AO E s → (∀ q, s.heap.size ≤ q → A q) → zk_tb Ts s → yi_ok p l e R s m args below meth c Q cc nL D cl tc A i f
def yb_rt (w : yb_M) : Option yb_W := some w.1
set_option maxHeartbeats 4000000 in
theorem yb_run {Ts : List Cond} {cl : List vw_C} {E : String} {l : Launch} {d : Nat × Nat} {mc ms : Nat} {y : MethodName} {cc : ByteArray} {maxL : Nat} {df : Nat → List (Option zm_V)} {fr : Nat} {code : zm_C} {X : yb_X} {F : List zm_V → yb_W → Option yb_W} (N : Nat)
    (hTs : ∀ w ∈ Ts, zk_nw w = true) (hy : plainName y.cls = true) (hy1 : y.name = "<init>") (hen : ∀ q ∈ code, zm_en cc q)
    (hF : ∀ i c k, X.1 i = some (c, k) → yb_f1 cl Ts y.cls i c k) (hN : ∀ i ci, X.2.1 i = some ci → yb_n1 df cl Ts y.cls i ci) (hfr : (cl[fr]?).map (fun q => q.1) = some E)
    (hO : ∀ i, X.2.2 i = some none → Cond.methodLink y.cls i objectInit ∈ Ts ∧ Cond.instanceMethod objectInit ∈ Ts ∧ Cond.code objectInit ⟨#[0xb1]⟩ 1 none ∈ Ts)
    (hI : ∀ i f, X.2.2 i = some (some f) → yi_al Ts cl E l (yb_rm d mc ms) y.cls cc maxL i f) (hRm : 1 ≤ d.1 ∧ 20 ≤ d.2)
    (hFe : ∀ av ws w', F av ws = some w' → av.length ≤ maxL ∧ yb_rn df fr (mc, ms) X yb_rt code N 0 (zm_lo av maxL) [] (ws, 0, 0) = some w') : yb_me Ts cl E l d mc ms y cc maxL F := by
  intro D tc A ad ws w' av hlen hwf hv hF0
  obtain ⟨hle, hrun⟩ := hFe av ws w' hF0
  refine Met.ofW (cc := cc) (maxL := maxL) (ret := none) hy rfl ?_
  intro p e s m args below meth c s₁ B hml hpre
  obtain ⟨rfl, hA, hP, hD, hK, hAO, htb⟩ := hpre
  have hx := B.exec
  have hb := B.bytes
  have hrt := B.returns
  have hlocks := B.notSynchronized
  have hown : s.vm.findClass y.cls = some m.cls := findClass_of_methodNamed B.named
  have hin : meth.name = "<init>" := ((name_of_methodNamed B.named B.method).1).trans hy1
  have hts := zk_tb.use hTs (av.map (zc_v (yb_a ad))).toArray htb
  have hl := lv_entry (av.map (zc_v (yb_a ad))) (n := maxL) (by rw [zk_sl]; exact hle)
  rw [lg_entry_eq]
  generalize (lg_sl (av.map (zc_v (yb_a ad))) ++ List.replicate (maxL - (lg_sl (av.map (zc_v (yb_a ad)))).length) Slot.unset).toArray = ls at hl ⊢
  refine yb_rn_ok (lm := (mc, ms)) (nL := maxL) (t := w') (ad0 := ad) (E := E) (fr := fr) (df := df) (X := X) (ret := yb_rt) (Ts := Ts) hx hb hown hts hK hA (fun _ => hin) hF hN hAO hfr hO (fun i f hf => hI i f hf p e s m _ below meth c _ D tc A ⟨hx, hb, hml, hown, hts⟩ hK hAO hA htb) hml hRm ⟨Nat.le_refl _, Nat.le_refl _⟩ ?_ hen N 0 (zm_lo av maxL) [] (ws, 0, 0) ad s.heap [] ls hrun rfl (zk_en hle hv hl) (fun v hv => by cases hv) ⟨⟨[], by rw [List.append_nil]⟩, hlen, hwf, hP, hD, va_S.rf⟩
  intro w2 ad' H' locs' pc' ls' hret hm hs hdc
  have hw2 : w2.1 = w' := Option.some.inj hret
  subst hw2
  unfold yb_ml at hm
  rw [Bool.and_eq_true] at hm
  refine W.widen (k := mc) (n := ms) (Nat.le_of_ble_eq_true hm.1) (Nat.le_of_ble_eq_true hm.2) ?_
  obtain ⟨s1, s2, s3, s4, s5, s6⟩ := hs
  exact W.vret hx hb hrt (fun t ht hW => ⟨rfl, ⟨ad', s1, s2, s3, by rw [ht]; exact s4, s5⟩, s6.F ht⟩) s6.2.2 hdc
section YR
variable {p : Program} {l : Launch} {e : Env} {R : Room} {s : State} {m : MethodId} {args : Array Value} {below : List Frame} {meth : Method} {c : Code} {H : Heap} {locs : List Loc} {Q : State → Prop}
variable {cc cy : ByteArray} {pc nL maxL n i mc ms : Nat} {ls : Array Slot} {rest st0 : List Value} {D : va_G} {cl : List vw_C} {tc : Nat → ClassId} {A : Nat → Prop} {own E : String} {Ts : List Cond} {y : MethodName} {d' : Nat × Nat} {F : List zm_V → yb_W → Option yb_W}
theorem yb_call {ad0 ad : List Nat} {ws w' : yb_W} {cells slots : Nat} {a : Array Value} (hr : va_Run p l e R s m args below meth c H locs cells slots mc ms (F0 m pc ls st0) rest (yb_po cl D tc A ad w' a) A) (hP : yb_s D cl tc A s.heap ad0 ad ws H locs)
    (kk : ∀ ad' H1 locs1, (∃ L, ad' = ad ++ L) → yb_s D cl tc A s.heap ad0 ad' w' H1 locs1 → W p l e R s m args below meth c H1 locs1 (cells + mc) (slots + ms) Q (F0 m (pc + 3) ls rest)) : W p l e R s m args below meth c H locs cells slots Q (F0 m pc ls st0) := by
  intro T hT X
  obtain ⟨v', st₀, t, T', L, h0, X', hL, e1, e2, ⟨hv, ⟨ad', q1, q2, q3, q4, q5⟩, hz, hk⟩, st⟩ := hr T hT X
  cases hv
  rw [h0] at hz hk
  obtain ⟨t2, a1, b1⟩ := kk ad' T'.heap (locs ++ L) q1 ⟨by obtain ⟨L0, h1⟩ := hP.1; obtain ⟨L1, h2⟩ := q1; exact ⟨L0 ++ L1, by rw [h2, h1, List.append_assoc]⟩, q2, q3, by rw [e1]; exact q4, q5, Nat.le_trans hP.2.2.2.2.2.1 (by rw [e1]; exact hz), fun q h1 h2 => by rw [e1, hk q (Nat.lt_of_lt_of_le h1 hP.2.2.2.2.2.1) h2]; exact hP.2.2.2.2.2.2.1 q h1 h2, fun q hq => by
      rcases List.mem_append.mp hq with h | h
      · exact hP.2.2.2.2.2.2.2 q h
      · exact hL q h⟩ T' rfl X'
  exact ⟨t2, st t2 a1, b1⟩
theorem yb_blind (hTs : ∀ w ∈ Ts, zk_nw w = true) {ad : List Nat} {ws : yb_W} (av : List Value) : FrameBlind (va_Pc av (yb_pr Ts cl E D tc A ad ws)) := by
  intro a U g mk h
  obtain ⟨h0, hA, h1, h2, h3, hO, h4⟩ := h
  refine ⟨h0, hA, h1, h2, va_K.moved (u := U) (U := U.calling g mk a) (Vm.Alike.refl U.vm) h3, va_AO.moved (u := U) (U := U.calling g mk a) (Vm.Alike.refl U.vm) hO, fun w hw => ?_⟩
  have hw1 := hTs w hw
  have ho : w.onTables = true := by
    unfold zk_nw at hw1
    split at hw1
    · rfl
    · rfl
    · exact (Bool.and_eq_true _ _ ▸ hw1 : _ ∧ _).1
  exact va_Nw.same ho (rfl : U.vm = (U.calling g mk a).vm) (h4 w hw)
theorem yb_pre (hTs : ∀ w ∈ Ts, zk_nw w = true) (hK : va_K D cl (yb_t tc E) s) (hAO : va_AO E s) (hA : ∀ q, s.heap.size ≤ q → A q) (htb : zk_tb Ts s) {ad0 ad : List Nat} {ws : yb_W} (hP : yb_s D cl tc A s.heap ad0 ad ws H locs) {U : State} (hU : U.heap = H) (hW : s.WarmedH U.vm) : yb_pr Ts cl E D tc A ad ws U :=
  ⟨fun q hq => hA q (Nat.le_trans hP.2.2.2.2.2.1 (by rw [← hU]; exact hq)), by rw [hU]; exact hP.2.2.2.1, hP.2.2.2.2.1, va_K.moved hW.alike hK, va_AO.moved hW.alike hAO, zk_tb.warm hTs hW htb⟩
theorem yb_split {st : List zm_V} {r : Nat × Nat} {as : List zm_V} {n : Nat} (h : n + 1 ≤ st.length) (hav : (st.take (n + 1)).reverse = .inr r :: as) : st = as.reverse ++ .inr r :: st.drop (n + 1) ∧ as.length = n := by
  have h1 : st.take (n + 1) = (.inr r :: as).reverse := by rw [← hav, List.reverse_reverse]
  have h2 : st.take (n + 1) ++ st.drop (n + 1) = st := List.take_append_drop _ _
  rw [h1, List.reverse_cons, List.append_assoc] at h2
  refine ⟨h2.symm, ?_⟩
  have h3 := congrArg List.length hav
  rw [List.length_reverse, List.length_take, List.length_cons] at h3
  omega
theorem yj_I (hTs : ∀ w ∈ Ts, zk_nw w = true) (hM : yb_me Ts cl E l d' mc ms y cy maxL F) (hl : Cond.methodLink own i y ∈ Ts) (hi : Cond.instanceMethod y ∈ Ts) (hin : Cond.initialized y.cls ∈ Ts) (hc : Cond.code y cy maxL none ∈ Ts) (hy1 : y.name = "<init>") (hn : zn_ok y n) (hR : d'.1 + 1 ≤ R.frames ∧ 8 + (maxL + 11) + d'.2 ≤ R.locals) (hF : ∀ av w w', F av w = some w' → ∃ r as, av = .inr r :: as) : yi_al Ts cl E l R own cc nL i (n, mc, ms, F) := by
  intro p e s m args below meth c Q D tc A S hK hAO hA htb pc ls st ad0 ad ws w' H locs cells slots hd hls h1 h2 hst hP hf hcl hsl kk
  obtain ⟨r, as, hav⟩ := hF _ _ _ hf
  obtain ⟨hsp, hasn⟩ := yb_split h1 hav
  have hcb : CallB R s args own i y cy maxL none [Cond.code y cy maxL none] (yb_rm d' mc ms) mc ms n := callB_of n S.2.2.2.2 (zk_good hTs hc) rfl rfl rfl (S.2.2.2.2 _ hin) (S.2.2.2.2 _ hl) hn hR
  have hv : ∀ v ∈ (Sum.inr r :: as : List zm_V), zv_ok (yb_Y ws.length) v := fun v hv => hst v (List.mem_of_mem_take (List.mem_reverse.mp (by rw [hav]; exact hv)))
  have hM' := hM D tc A ad ws w' (.inr r :: as) hP.2.1 hP.2.2.1 hv (by rw [← hav]; exact hf)
  have hst' : st.map (zc_v (yb_a ad)) = (as.map (zc_v (yb_a ad))).reverse ++ .ref (yb_a ad r) :: (st.drop (n + 1)).map (zc_v (yb_a ad)) := by
    conv => lhs; rw [hsp]
    simp [zc_v]
  rw [hst']
  have hrl : (st.drop (n + 1)).length ≤ 8 := by
    have h2 : st.length ≤ n + 9 := h2
    rw [List.length_drop]
    omega
  exact yb_call (va_runI (As := as.map (zc_v (yb_a ad))) (b := yb_a ad r) (rest := (st.drop (n + 1)).map (zc_v (yb_a ad))) S hM' ⟨hcb, hy1, S.2.2.2.2 _ hi⟩ ⟨yb_blind hTs _, fun U hU hW => ⟨rfl, yb_pre hTs hK hAO hA htb hP hU hW⟩⟩ rfl (by rw [List.length_map]; exact hasn) hls rfl (lv_room (by rw [zk_sum]; exact hrl)) hd ⟨hcl, hsl⟩) hP kk
theorem yj_IN (hTs : ∀ w ∈ Ts, zk_nw w = true) {host : String} (hM : yb_me Ts cl E l d' mc ms y cy maxL F) (hl : Cond.methodLinkNest own i y host ∈ Ts) (hi : Cond.instanceMethod y ∈ Ts) (hin : Cond.initialized y.cls ∈ Ts) (hc : Cond.code y cy maxL none ∈ Ts) (hy1 : y.name = "<init>") (hn : zn_ok y n) (hR : d'.1 + 1 ≤ R.frames ∧ 8 + (maxL + 11) + d'.2 ≤ R.locals) (hF : ∀ av w w', F av w = some w' → ∃ r as, av = .inr r :: as) : yi_al Ts cl E l R own cc nL i (n, mc, ms, F) := by
  intro p e s m args below meth c Q D tc A S hK hAO hA htb pc ls st ad0 ad ws w' H locs cells slots hd hls h1 h2 hst hP hf hcl hsl kk
  obtain ⟨r, as, hav⟩ := hF _ _ _ hf
  obtain ⟨hsp, hasn⟩ := yb_split h1 hav
  have hcb : va_CN R s args own i y host cy maxL none [Cond.code y cy maxL none] (yb_rm d' mc ms) mc ms n := va_cnB n S.2.2.2.2 (zk_good hTs hc) rfl rfl rfl (htb _ hl) (S.2.2.2.2 _ hin) hn hR
  have hv : ∀ v ∈ (Sum.inr r :: as : List zm_V), zv_ok (yb_Y ws.length) v := fun v hv => hst v (List.mem_of_mem_take (List.mem_reverse.mp (by rw [hav]; exact hv)))
  have hM' := hM D tc A ad ws w' (.inr r :: as) hP.2.1 hP.2.2.1 hv (by rw [← hav]; exact hf)
  have hst' : st.map (zc_v (yb_a ad)) = (as.map (zc_v (yb_a ad))).reverse ++ .ref (yb_a ad r) :: (st.drop (n + 1)).map (zc_v (yb_a ad)) := by
    conv => lhs; rw [hsp]
    simp [zc_v]
  rw [hst']
  have hrl : (st.drop (n + 1)).length ≤ 8 := by
    have h2 : st.length ≤ n + 9 := h2
    rw [List.length_drop]
    omega
  exact yb_call (va_runIN (As := as.map (zc_v (yb_a ad))) (b := yb_a ad r) (rest := (st.drop (n + 1)).map (zc_v (yb_a ad))) S hM' ⟨hcb, hy1, S.2.2.2.2 _ hi⟩ ⟨yb_blind hTs _, fun U hU hW => ⟨rfl, yb_pre hTs hK hAO hA htb hP hU hW⟩⟩ rfl (by rw [List.length_map]; exact hasn) hls rfl (lv_room (by rw [zk_sum]; exact hrl)) hd ⟨hcl, hsl⟩) hP kk
end YR
