/-! THE CLAIM OUT OF ONE WALK OF THE LAW'S BODY. Your part is whole_start (and what it stands on); all else here is the same for every law, but numbers. -/
def R_law : String := "MapForgeLaw"
def lw_P (b : Addr) (xs : List Int32) (args : Array Value) (s : State) : Prop := args = #[.ref b] ∧ s.IntsAt b xs ∧ xs.length ≤ 2560 ∧ (Jvm.Cond.and given_1 narrow_1).before args s = true
def lw_Q (_ : Array Value) (s : State) (o : Outcome) (t : State) : Prop := o = .returned (some (.int 1)) ∧ Framed s o t [] 600000 7302249
def lw_Z (below : List Frame) (a : Array Value) (s : State) : State → Prop := fun t => ∃ o, t.status = .running ∧ Ended t below o ∧ lw_Q a s o t
/-- the law's own end, with 1 on the stack, nothing written that was there before, its room as the claim has it -/
theorem lw_ret {p : Program} {l : Launch} {e : Env} {s : State} {m : MethodId} {below : List Frame} {meth : Method} {c : Code} {b : Nat} (hx : p.tables.exec = Jvm.exec) (hb : c.code = code) (hr : meth.sig.returnType = ret) (hlocks : meth.locks = false) {pc : Nat} {H : Heap} {ls : Array Slot} (hdg : decode code pc = .ok (.ireturn, 1)) : W p l e room_1 s m #[Value.ref b] below meth c H [] 600000 7302249 (lw_Z below #[Value.ref b] s) (F0 m pc ls [.int 1]) := by
  intro T hT X
  obtain ⟨fs, hret, hrun, hended, hW, hframe⟩ := X.leave (v := some (.int 1)) (hlocks := hlocks) (fun h => by rw [hr] at h; cases h)
  have hmeth' : T.vm.method? m = some meth := X.method'
  refine ⟨T.setFrames fs, ?_, .returned (some (.int 1)), hrun, hended, rfl, ⟨_, rfl⟩, hW, hframe⟩
  jvm_step X.here [X.here.top, hx, hb, hdg, hmeth', hr, ret, narrow_b1]
  (try refine ⟨rfl, ?_⟩); (try refine ⟨rfl, ?_⟩)
  first | (intro acts; rw [hret _ acts rfl rfl rfl]) | rw [hret _ _ rfl rfl rfl]
  exact Steps.refl _
/-- what holds at the law's entry: the machine, the code, the tables' words (any of lw_tbl by 'hts w (by decide +kernel)'), the script of L ints xs at the cell b, what the Statement gives of the start (any of its parts by flat_of_before) -/
def lw_At (p : Program) (s : State) (m : MethodId) (meth : Method) (c : Code) (b L : Nat) (xs : Nat → Int32) : Prop :=
  p.tables.exec = Jvm.exec ∧ c.code = code ∧ meth.sig.returnType = ret ∧ c.maxLocals = 4 ∧ s.vm.findClass R_law = some m.cls ∧ (∀ w ∈ lw_tbl, w.before #[Value.ref b] s = true) ∧ va_X b L xs s s.heap ∧ b < s.heap.size ∧ meth.locks = false ∧ (Jvm.Cond.and given_1 narrow_1).before #[Value.ref b] s = true
-- ===== YOUR PART BEGINS =====
set_option maxHeartbeats 4000000 in
set_option maxRecDepth 100000 in
/-- YOUR PART: from the entry, for every script of at most 2560 ints, the law comes to its end with true -/
theorem whole_start {p : Program} {e : Env} {s : State} {m : MethodId} {below : List Frame} {meth : Method} {c : Code} (l : Launch) {b L : Nat} {xs : Nat → Int32} (hL : L ≤ 2560) (C0 : lw_At p s m meth c b L xs) : W p l e room_1 s m #[Value.ref b] below meth c s.heap [] 0 0 (lw_Z below #[Value.ref b] s) (entryFrame m ([Value.ref b] : List Value).toArray 4) := by
  obtain ⟨hx, hb, hr, hml, hown, hts, hX, hbl, hlocks, hgv⟩ := id C0
  obtain ⟨A, hAe⟩ : ∃ A : Nat → Prop, ∀ q, A q ↔ s.heap.size ≤ q := ⟨fun q => s.heap.size ≤ q, fun q => Iff.rfl⟩
  have hA : ∀ q : Nat, s.heap.size ≤ q → A q := fun q h => (hAe q).mpr h
  have hnA : ∀ a : Nat, a < s.heap.size → ¬ A a := fun a h z => absurd ((hAe a).mp z) (Nat.not_le.mpr h)
  have hz : ∀ w ∈ zt_Ts, w.before #[Value.ref b] s = true := fun w hw => hts w (List.mem_filter.mp hw).1
  have htb := yu_tb hts
  obtain ⟨D, tc, hK, hAO⟩ := yu_K hts
  obtain ⟨kd, hT, hZ⟩ := yu_kinds hts hgv hnA
  have S : CallFix p m c code 4 s #[Value.ref b] zt_Ts "MapForgeLaw" := ⟨hx, hb, hml, hown, hz⟩
  have hRm : 10 ≤ room_1.frames ∧ 366 ≤ room_1.locals := by decide
  have hl := lv_entry ([.ref b]) (n := 4) (Nat.le_of_ble_eq_true rfl)
  rw [lg_entry_eq]
  generalize (lg_sl ([.ref b]) ++ List.replicate (4 - (lg_sl ([.ref b])).length) Slot.unset).toArray = ls at hl ⊢
  have hl : lv_has ls 4 [(0, .ref b)] := hl
  have h0 : yb_s D zt_cl tc A s.heap [] [] [] s.heap [] := ⟨⟨[], rfl⟩, rfl, fun c h => (by cases h), fun k q h => (by simp [yb_w] at h), ⟨fun i j p q h => (by simp [yb_w] at h), fun k q h => (by simp [yb_w] at h)⟩, va_S.rf⟩
  -- new MapForge
  refine yx_new (df := yb_dff) (ci := 10) (rest := []) hx hb hown hz hK hA wl_new_mf h0 (by decide) (by decide) dl_0 (fun q0 H1 h1 => ?_)
  have h1 : yb_s D zt_cl tc A s.heap [] [q0] yw_1 H1 [] := h1
  refine W.widen (k := 1) (n := 7) (by decide) (by decide) ?_
  refine lv_dup hx hb dl_3 rfl ?_
  refine wl_i_mf l hRm p e s m _ below meth c _ D tc A S hK hAO hA htb 4 ls [.inr (0, 0), .inr (0, 0)] [] [q0] yw_1 yw_2 H1 [] 1 7 dl_4 hl.1 (by decide) (by decide) ?_ h1 yw_mf (by decide) (by decide) (fun ad1 H2 locs2 hL1 h2 => ?_)
  · intro v hv
    have hv : v = .inr (0, 0) := by simpa using hv
    subst hv
    exact yb_zy.mpr ⟨by decide, rfl⟩
  refine W.widen (k := 353) (n := 3964) (by decide) (by decide) ?_
  show W p l e room_1 s m _ below meth c H2 locs2 353 3964 _ (F0 m 7 ls [.ref q0])
  refine lv_astore_n (lv' := [(1, .ref q0), (0, .ref b)]) hx hb dl_7 rfl hl (by decide) rfl (fun ls hl => ?_)
  have hlen1 : ad1.length = 353 := h2.2.1.trans yw_l
  -- new MapForgeModel
  refine yx_new (df := yb_dff) (ci := 11) (rest := []) hx hb hown hz hK hA wl_new_mo h2 (by decide) (by decide) dl_8 (fun q1 H3 h3 => ?_)
  have h3 : yb_s D zt_cl tc A s.heap [] (ad1 ++ [q1]) yw_3 H3 locs2 := h3
  refine W.widen (k := 354) (n := 4007) (by decide) (by decide) ?_
  refine lv_dup hx hb dl_11 rfl ?_
  have hq1 : (ad1 ++ [q1]).getD 353 0 = q1 := by
    rw [List.getD_eq_getElem?_getD, ← hlen1, List.getElem?_append_right (Nat.le_refl _), Nat.sub_self]
    rfl
  have e3 : ([.ref q1, .ref q1] : List Value) = ([.inr (353, 0), .inr (353, 0)] : List zm_V).map (zc_v (yb_a (ad1 ++ [q1]))) := by
    show _ = [Value.ref ((ad1 ++ [q1]).getD 353 0), Value.ref ((ad1 ++ [q1]).getD 353 0)]
    rw [hq1]
  have hlen3 : yw_3.length = 354 := by
    show (yw_2 ++ [_]).length = 354
    rw [List.length_append, yw_l]
    rfl
  rw [e3]
  refine wl_i_mo l hRm p e s m _ below meth c _ D tc A S hK hAO hA htb 12 ls [.inr (353, 0), .inr (353, 0)] [] (ad1 ++ [q1]) yw_3 yw_4 H3 locs2 354 4007 dl_12 hl.1 (by decide) (by decide) ?_ h3 yw_mo (by decide) (by decide) (fun ad2 H4 locs4 hL2 h4 => ?_)
  · intro v hv
    have hv : v = .inr (353, 0) := by simpa using hv
    subst hv
    exact yb_zy.mpr ⟨by rw [hlen3]; decide, rfl⟩
  refine W.widen (k := 380) (n := 16586) (by decide) (by decide) ?_
  have e4 : ((([.inr (353, 0), .inr (353, 0)] : List zm_V).drop (0 + 1)).map (zc_v (yb_a (ad1 ++ [q1])))) = [Value.ref q1] := by
    show [Value.ref ((ad1 ++ [q1]).getD 353 0)] = _
    rw [hq1]
  rw [e4]
  refine lv_astore_n (lv' := [(2, .ref q1), (1, .ref q0), (0, .ref b)]) hx hb dl_15 rfl hl (by decide) rfl (fun ls hl => ?_)
  refine lv_iconst (v := 0) hx hb dl_16 (by decide) ?_
  refine lv_istore_n (lv' := [(3, .int 0), (2, .ref q1), (1, .ref q0), (0, .ref b)]) hx hb dl_17 rfl hl (by decide) rfl (fun ls hl => ?_)
  -- the loop
  have hok := yk_ok
  rw [Bool.and_eq_true, Bool.and_eq_true] at hok
  have hG : zg_ok zt_Y zt_cl (yb_t tc "MapForge$Frame") (ya_a kd b ad2) (ya_c tc) A := ya_G h4.2.1 h4.2.2.2.2.1 hok.1
  have hcs : zk_cs zt_Y zt_Zs (ya_a kd b ad2) A s s.heap := yu_cs hT hZ
  have hTl := yu_T (ad := ad2) hT hX (hnA b hbl)
  have hst : zs_at D zt_cl (zt_Yl L xs) (ya_a kd b ad2) (ya_c tc) A s.heap (yz yw_4) H4 locs4 := yv_at.mpr ⟨ya_P h4.2.1 h4.2.2.2.1 hok.1, h4.2.2.2.2.2⟩
  obtain ⟨Mf, hrun⟩ := law_loop L xs (by omega) L 0 (yz yw_4) P0 [] (yk_iv hok.2.1 hok.2.2) (Nat.zero_le L) (by omega)
  have g0 : ya_a kd b ad2 (0, 0) = q0 := by
    rw [ya_lo (by decide)]
    obtain ⟨L1, rfl⟩ := hL1
    obtain ⟨L2, rfl⟩ := hL2
    rfl
  have g1 : ya_a kd b ad2 (35, 0) = q1 := by
    rw [ya_lo (by decide)]
    obtain ⟨L2, rfl⟩ := hL2
    show ((ad1 ++ [q1]) ++ L2).getD 353 0 = q1
    rw [yb_gd (by rw [List.length_append, hlen1]; exact Nat.lt_succ_self 353), hq1]
  have hzl : zl_ok (zt_Yl L xs) (ya_a kd b ad2) ls 4 [some (.inr (63, 0)), some (.inr (0, 0)), some (.inr (35, 0)), some (.inl (nI 0))] := by
    refine ⟨rfl, hl.1, hl.2.1, fun i v hi => ?_⟩
    match i, hi with
    | 0, hi => cases hi; exact ⟨hl.2.2 (0, .ref b) (by simp), Or.inl rfl⟩
    | 1, hi =>
      cases hi
      refine ⟨?_, Or.inr ⟨show (0 : Nat) < 62 by decide, show (0 : Nat) < 1 by decide⟩⟩
      show ls[1]? = some (.val (.ref (ya_a kd b ad2 (0, 0))))
      rw [g0]
      exact hl.2.2 (1, .ref q0) (by simp)
    | 2, hi =>
      cases hi
      refine ⟨?_, Or.inr ⟨show (35 : Nat) < 62 by decide, show (0 : Nat) < 1 by decide⟩⟩
      show ls[2]? = some (.val (.ref (ya_a kd b ad2 (35, 0))))
      rw [g1]
      exact hl.2.2 (2, .ref q1) (by simp)
    | 3, hi => cases hi; exact ⟨hl.2.2 (3, .int 0) (by simp), trivial⟩
    | i + 4, hi => simp at hi
  refine zm_rn_ok (Y := zt_Yl L xs) (X := lx_law) (cells := 380) (slots := 16586) (nL := 4) (t := (1, Mf)) (ret := zr_z) (code := cd_law) hx hb hown hz (yv_G hG) hK (fun i c k h => nomatch h) (fun i v h => nomatch h) hTl (fun i q h => nomatch h) (yl_I l hRm S hG hK hcs htb (by decide)) ?_ en_law (L + 1) 18 _ [] (yz yw_4) H4 locs4 ls hrun hzl (fun v h => (by cases h)) hst
  intro v M' H' locs' pc' ls' hret hv hP' hdc
  unfold zr_z at hret
  split at hret
  · next x =>
    split at hret
    · cases hret
      refine va_forget (fun q hq => (hAe _).mp (hP'.2.2.2 q hq)) ?_
      refine W.widen (k := 600000) (n := 7302249) (by decide) (by decide) ?_
      exact lw_ret hx hb hr hlocks hdc
    · cases hret
  · cases hret
-- ===== YOUR PART ENDS =====
set_option maxHeartbeats 4000000 in
theorem lw_walk (l : Launch) (b : Addr) (xs : List Int32) : MetFree l x (headSpec (Jvm.Cond.code x code maxLocals ret :: tables_1) room_1) (lw_P b xs) (fun _ _ _ _ _ => True) lw_Q := by
  refine MetFree.of_bodyS (code := code) (maxLocals := maxLocals) (ret := ret) (by decide) ?_ ?_
  · intro args s m h hn
    obtain ⟨meth, c, h1, h2, h3, h4, h5, h6, -, -⟩ := Cond.code_spec hn (atoms_spec (ws := Jvm.Cond.code x code maxLocals ret :: tables_1) h _ List.mem_cons_self)
    exact ⟨meth, c, h1, h2, h3, h4, h5, h6⟩
  · intro p e s m args below meth c s₁ B hml0 hP _
    obtain ⟨rfl, hx, hbd, hgv⟩ := hP
    obtain ⟨scr, harrAt, hlist, hof, hsmall⟩ := hx
    obtain ⟨hcb, hkn, -, -⟩ := State.arrayAt?_spec harrAt
    have hown : s.vm.findClass R_law = some m.cls := findClass_of_methodNamed B.named
    have hts0 : ∀ c ∈ (Jvm.Cond.code x code maxLocals ret :: tables_1), c.before #[Value.ref b] s = true := atoms_spec (ws := Jvm.Cond.code x code maxLocals ret :: tables_1) B.pre
    have hts : ∀ w ∈ lw_tbl, w.before #[Value.ref b] s = true := k2_hts_sels lw_privs (fun w hw => hts0 w (List.mem_cons_of_mem _ hw)) lw_privs_ok
    have hml : c.maxLocals = 4 := B.maxLocals_eq (hts0 _ List.mem_cons_self)
    have X₀ : Stand p l e room_1 s m #[Value.ref b] below meth c s₁ [] 0 0 := Stand.of_body B
    have hh0 : s₁.heap = s.heap := by rw [B.state]; rfl
    have hsz : scr.slots.size = xs.length := by rw [← Array.length_toList, hlist, List.length_map]
    have hval : ∀ j : Nat, j < xs.length → scr.slots[j]? = some (.int (xs.getD j 0)) := fun j hj => by
      rw [← Array.getElem?_toList, hlist]
      simp [hj]
    have hbl : b < s.heap.size := (Array.getElem?_eq_some_iff.mp hcb).1
    have hX : va_X b xs.length (fun j => xs.getD j 0) s s.heap := ⟨scr, hcb, hof, hkn, hsz, hval⟩
    have K : W p l e room_1 s m #[Value.ref b] below meth c s₁.heap [] 0 0 (lw_Z below #[Value.ref b] s) (entryFrame m ([Value.ref b] : List Value).toArray 4) := by
      rw [hh0]
      exact whole_start l hbd ⟨B.exec, B.bytes, B.returns, hml, hown, hts, hX, hbl, B.notSynchronized, hgv⟩
    obtain ⟨t, a1, o, b1, b2, b3⟩ := K s₁ rfl X₀
    exact ⟨t, o, a1, b1, b2, b3⟩
theorem lw_pre_spec {args : Array Value} {s : State} (h : (Jvm.Cond.and given_1 narrow_1).before args s = true) (hr : rest_1_c.before args s = true) : ∃ (b : Addr) (xs : List Int32), lw_P b xs args s := by
  have hs := flat_of_before _ h
  have hq := flat_of_before _ hr
  have hc : (Cond.count 1).before args s = true := hs _ (by decide +kernel)
  have harr : (Cond.arrayOf (.arg 0) .int).before args s = true := hs _ (by decide +kernel)
  have hle : (Cond.le (.length (.arg 0)) (.int 2560)).before args s = true := hs _ (by decide +kernel)
  have hlen : (Cond.isInt (.length (.arg 0))).before args s = true := hq _ (by decide +kernel)
  have hall : (Cond.all (.arg 0) (.isInt (.elem (.arg 0) (.index 0)))).before args s = true := hq _ (by decide +kernel)
  obtain ⟨b, xs, hb, hx⟩ := State.ints_of_pre rfl harr hlen hall
  have hsm : xs.length < 2 ^ 31 := hx.choose_spec.2.2.2
  have hev : (Term.length (.arg 0)).eval args s none [] s = some (.int xs.length.toInt32) := hx.length_eval hb
  have hv := Cond.le_ints hev (show (Term.int 2560).eval args s none [] s = some (.int 2560) from rfl)
  have hd : xs.length.toInt32 ≤ 2560 := by
    simpa [Cond.before, Cond.holds, hv] using hle
  have hN : xs.length ≤ 2560 := (Int32.ofNat_le_ofNat hsm (by decide)).mp (show Int32.ofNat xs.length ≤ Int32.ofNat 2560 from hd)
  exact ⟨b, xs, Cond.one_arg hc (show args[0]? = some (.ref b) from hb), hx, hN, h⟩
theorem lw_comes (l : Launch) : Comes l x (Jvm.Cond.code x code maxLocals ret :: tables_1) room_1 (fun tb e args s => Calls_1 tb e args s ∧ rest_1 tb e args s ∧ Pre_1 tb e args s)
    (fun _ _ args s o t => lw_Q args s o t) := by
  intro p e ha hc hk s m args below hf hfit hheap happ hpre
  obtain ⟨b, xs, hP⟩ := lw_pre_spec hpre.2.2 hpre.2.1
  obtain ⟨k, o, h1, h2, h3, hQ⟩ := lw_walk l b xs p e ha hc hk s m args below hf ((Spec.applies_iff_loose hf).mp happ).1 hP trivial
  exact ⟨k, o, h1, h2, h3, hQ⟩
theorem lw_frame {s t : State} {o : Outcome} {args : Array Value} (h : Framed s o t [] 600000 7302249) :
    Framed s o t (fieldLocs frame_1_writes args s ++ arrayLocs frame_1_arrays args s ++ staticLocs frame_1_statics s) 600000 7302249 := h
theorem lw_limb (L : Cond) (hL : ∀ (args : Array Value) (s t : State), L.after args s (.returned (some (.int 1))) t = true) :
    ArmFor flags0 classFile x code maxLocals ret World_1 tables_1 room_1 Calls_1 rest_1 Pre_1
      (fun tb e a s o t => postC L tb e a s o t ∧ Framed s o t (fieldLocs frame_1_writes a s ++ arrayLocs frame_1_arrays a s ++ staticLocs frame_1_statics s) 600000 7302249) := by
  intro l _ _ _ p e ha hc hk s m args below hf hfit hheap happ hpre
  obtain ⟨k, o, h1, h2, h3, rfl, hF⟩ := lw_comes l p e ha hc hk s m args below hf hfit hheap happ hpre
  exact ⟨k, _, h1, h2, h3, hL args s _, lw_frame hF⟩
theorem i_vc : Claimed_1_1 ∧ Claimed_1_2 := ⟨lw_limb limb_1_1 (fun args s t => by simp [limb_1_1, Cond.after, Cond.holds, Cond.value]), lw_limb limb_1_2 (fun args s t => Cond.after_iff.mpr (by
  first | (rw [show limb_1_2 = Cond.eq .result (.int 1) from rfl, Cond.eq_ints (x := 1) (y := 1) rfl rfl]; simp; done) | (simp [limb_1_2, Cond.value, Term.eval]; done)))⟩
