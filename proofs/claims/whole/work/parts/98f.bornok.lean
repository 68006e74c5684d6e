section YB
variable {p : Program} {l : Launch} {e : Env} {R : Room} {s : State} {m : MethodId} {args : Array Value} {below : List Frame} {meth : Method} {c : Code} {H : Heap} {locs : List Loc} {Q : State → Prop}
variable {cc : ByteArray} {pc nL : Nat} {ls : Array Slot} {D : va_G} {cl : List vw_C} {tc : Nat → ClassId} {A : Nat → Prop} {own E : String} {Ts : List Cond} {df : Nat → List (Option zm_V)} {fr : Nat} {lm : Nat × Nat}
theorem yb_ac {s : State} {args : Array Value} {cA : ClassId} {ty : FieldType} (h : ArrOfT s cA ty) (h1 : s.vm.findClass ("[" ++ ty.toString) = some cA) : (Cond.arrayClass ty).before args s = true := by
  obtain ⟨-, kA, h2, comp, h3⟩ := h 0 (fun _ => .null)
  unfold Cond.before Cond.holds
  simp only [Cond.value]
  have h2' : s.vm.classes[cA]? = some kA := h2
  simp [h1, h2', h3]
/-- a call of a constructor: the machine comes behind it -/
def yi_ok (p : Program) (l : Launch) (e : Env) (R : Room) (s : State) (m : MethodId) (args : Array Value) (below : List Frame) (meth : Method) (c : Code) (Q : State → Prop) (cc : ByteArray) (nL : Nat) (D : va_G) (cl : List vw_C) (tc : Nat → ClassId) (A : Nat → Prop) (i : Nat) (f : yb_F) : Prop :=
  ∀ (pc : Nat) (ls : Array Slot) (st : List zm_V) (ad0 ad : List Nat) (ws w' : yb_W) (H : Heap) (locs : List Loc) (cells slots : Nat), decode cc pc = .ok (.invokespecial i, 3) → ls.size = nL → f.1 + 1 ≤ st.length → st.length ≤ f.1 + 9 → (∀ v ∈ st, zv_ok (yb_Y ws.length) v) → yb_s D cl tc A s.heap ad0 ad ws H locs → f.2.2.2 (st.take (f.1 + 1)).reverse ws = some w' → cells + f.2.1 ≤ R.cells → slots + f.2.2.1 ≤ R.slots →
    (∀ ad' H' locs', (∃ L, ad' = ad ++ L) → yb_s D cl tc A s.heap ad0 ad' w' H' locs' → W p l e R s m args below meth c H' locs' (cells + f.2.1) (slots + f.2.2.1) Q (F0 m (pc + 3) ls ((st.drop (f.1 + 1)).map (zc_v (yb_a ad))))) →
    W p l e R s m args below meth c H locs cells slots Q (F0 m pc ls (st.map (zc_v (yb_a ad))))
set_option maxHeartbeats 4000000 in
set_option maxRecDepth 100000 in
theorem yb_ex_ok {X : yb_X} (hx : p.tables.exec = Jvm.exec) (hb : c.code = cc) (hown : s.vm.findClass own = some m.cls) (hts : ∀ w ∈ Ts, w.before args s = true) (hK0 : va_K D cl (yb_t tc E) s) (hA : ∀ q, s.heap.size ≤ q → A q) (hnm : (∃ i q, X.1 i = some q) → meth.name = "<init>")
    (hF : ∀ i c k, X.1 i = some (c, k) → yb_f1 cl Ts own i c k) (hN : ∀ i ci, X.2.1 i = some ci → yb_n1 df cl Ts own i ci) (hAO : va_AO E s) (hfr : (cl[fr]?).map (fun q => q.1) = some E)
    (hO : ∀ i, X.2.2 i = some none → Cond.methodLink own i objectInit ∈ Ts ∧ Cond.instanceMethod objectInit ∈ Ts ∧ Cond.code objectInit ⟨#[0xb1]⟩ 1 none ∈ Ts)
    (hI : ∀ i f, X.2.2 i = some (some f) → yi_ok p l e R s m args below meth c Q cc nL D cl tc A i f) (hml : c.maxLocals = nL) (hRm : 1 ≤ R.frames ∧ 20 ≤ R.locals) (hlm : lm.1 ≤ R.cells ∧ lm.2 ≤ R.slots)
    {T : Type} {t : T} {ret : yb_M → Option T} {K : Nat → zm_L → List zm_V → yb_M → Option T} {nx : Nat} {ts : List Nat} {lo : zm_L} {st : List zm_V} {w : yb_M} {ins : Jvm.ClassFile.Instr} {ad0 ad : List Nat}
    (hR : ∀ w' ad' H' locs' pc' ls', ret w' = some t → yb_ml lm w'.2.1 w'.2.2 = true → yb_s D cl tc A s.heap ad0 ad' w'.1 H' locs' → decode cc pc' = .ok (.return_, 1) → W p l e R s m args below meth c H' locs' w'.2.1 w'.2.2 Q (F0 m pc' ls' []))
    (hK : ∀ pc' lo' st' w' ad' H' locs' ls', K pc' lo' st' w' = some t → yb_ml lm w'.2.1 w'.2.2 = true → zl_ok (yb_Y w'.1.length) (yb_a ad') ls' nL lo' → (∀ v ∈ st', zv_ok (yb_Y w'.1.length) v) → yb_s D cl tc A s.heap ad0 ad' w'.1 H' locs' → W p l e R s m args below meth c H' locs' w'.2.1 w'.2.2 Q (F0 m pc' ls' (st'.map (zc_v (yb_a ad')))))
    (hen : zm_en cc (pc, ins, nx, ts)) (hw : yb_ml lm w.2.1 w.2.2 = true) (hl : zl_ok (yb_Y w.1.length) (yb_a ad) ls nL lo) (hst : ∀ v ∈ st, zv_ok (yb_Y w.1.length) v) (hP : yb_s D cl tc A s.heap ad0 ad w.1 H locs)
    (h : yb_ex df fr lm X ret K nx ts lo st w ins = some t) : W p l e R s m args below meth c H locs w.2.1 w.2.2 Q (F0 m pc ls (st.map (zc_v (yb_a ad)))) := by
  obtain ⟨hd, hnx, htg⟩ := hen
  dsimp only at hd hnx htg
  have push : ∀ {n : Nat} {v : zm_V} {r : List zm_V}, zv_ok (yb_Y n) v → (∀ w ∈ r, zv_ok (yb_Y n) w) → ∀ w ∈ v :: r, zv_ok (yb_Y n) w := fun hv hr w hw => by
    rcases List.mem_cons.mp hw with rfl | hw
    · exact hv
    · exact hr w hw
  have tail : ∀ {n : Nat} {v : zm_V} {r : List zm_V}, (∀ w ∈ v :: r, zv_ok (yb_Y n) w) → ∀ w ∈ r, zv_ok (yb_Y n) w := fun h w hw => h w (List.mem_cons_of_mem _ hw)
  have li : ∀ {i : Nat} {k : Int32 → Option T}, zm_li lo i k = some t → ∃ x, ls[i]? = some (.val (.int x)) ∧ k x = some t := by
    intro i k hk
    unfold zm_li at hk
    split at hk
    · next x hx => exact ⟨x, (hl.2.2.2 i _ hx).1, hk⟩
    · cases hk
  have la : ∀ {i : Nat} {k : Nat × Nat → Option T}, zm_la lo i k = some t → ∃ x, ls[i]? = some (.val (.ref (yb_a ad x))) ∧ zy_ok (yb_Y w.1.length) x ∧ k x = some t := by
    intro i k hk
    unfold zm_la at hk
    split at hk
    · next x hx => exact ⟨x, (hl.2.2.2 i _ hx).1, (hl.2.2.2 i _ hx).2, hk⟩
    · cases hk
  have sl : ∀ {i : Nat} {v : zm_V} {k : zm_L → Option T}, zm_sl lo i v k = some t → i < nL ∧ k (lo.set i (some v)) = some t := by
    intro i v k hk
    unfold zm_sl at hk
    split at hk
    · next x hx => exact ⟨by rw [← hl.1]; exact (List.getElem?_eq_some_iff.mp hx).1, hk⟩
    · cases hk
  have b1 : ∀ {k : Int32 → List zm_V → Option T}, zm_b1 st k = some t → ∃ x r, st = .inl x :: r ∧ k x r = some t := by
    intro k hk
    unfold zm_b1 at hk
    split at hk
    · next x r => exact ⟨x, r, rfl, hk⟩
    · cases hk
  have b2 : ∀ {k : Int32 → Int32 → List zm_V → Option T}, zm_b2 st k = some t → ∃ x y r, st = .inl y :: .inl x :: r ∧ k x y r = some t := by
    intro k hk
    unfold zm_b2 at hk
    split at hk
    · next y x r => exact ⟨x, y, r, rfl, hk⟩
    · cases hk
  have tj : ∀ {o : Int} {k : Nat → Option T}, zm_tj pc ts o = true → zm_t0 ts k = some t → ∃ tg : Nat, (pc : Int) + o = (tg : Int) ∧ k tg = some t := by
    intro o k h1 h2
    unfold zm_tj at h1
    unfold zm_t0 at h2
    split at h1
    · next a b => exact ⟨a, of_decide_eq_true h1, h2⟩
    · cases h1
  obtain ⟨hpre, hlen, hwf, hPP, hDD, hSS⟩ := id hP
  have ml : ∀ {a b : Nat}, yb_ml lm a b = true → a ≤ R.cells ∧ b ≤ R.slots := by
    intro a b h
    unfold yb_ml at h
    rw [Bool.and_eq_true] at h
    exact ⟨Nat.le_trans (Nat.le_of_ble_eq_true h.1) hlm.1, Nat.le_trans (Nat.le_of_ble_eq_true h.2) hlm.2⟩
  have ref_at : ∀ {q : Nat × Nat} {x : yb_C}, w.1[q.1]? = some x → (yb_w tc ad w.1)[q.1]? = some (yb_a ad q, yb_e tc ad x) := by
    intro q x hq
    rw [yb_w_get hlen, hq]
    rfl
  have grow : ∀ {q : Nat} {x : yb_C} {ee : va_E} {H1 : Heap} {a b pc' : Nat} {r : List zm_V}, yb_ok (w.1.length + 1) x → yb_e tc (ad ++ [q]) x = ee → va_P D cl (yb_w tc ad w.1 ++ [(q, ee)]) H1 → va_D A (yb_w tc ad w.1 ++ [(q, ee)]) → va_S A s.heap H1 locs → yb_ml lm a b = true → (∀ v ∈ r, zv_ok (yb_Y w.1.length) v) → K pc' lo (.inr (w.1.length, 0) :: r) (w.1 ++ [x], a, b) = some t → W p l e R s m args below meth c H1 locs a b Q (F0 m pc' ls (.ref q :: r.map (zc_v (yb_a ad)))) := by
    intro q x ee H1 a b pc' r hok hee hP1 hD1 hS1 hm hr hk
    have hw' : yb_w tc (ad ++ [q]) (w.1 ++ [x]) = yb_w tc ad w.1 ++ [(q, ee)] := by
      rw [yb_w_push hlen hwf, hee]
    have k := hK pc' lo (.inr (w.1.length, 0) :: r) (w.1 ++ [x], a, b) (ad ++ [q]) H1 locs ls hk hm (by
      rw [hlen.symm] at hl
      exact yb_l_app hl (by
        show ad.length ≤ (w.1 ++ [x]).length
        rw [List.length_append, List.length_singleton]
        omega)) (by
      intro v hv
      show zv_ok (yb_Y (w.1 ++ [x]).length) v
      rw [List.length_append, List.length_singleton]
      rcases List.mem_cons.mp hv with rfl | hv
      · show zy_ok (yb_Y (w.1.length + 1)) (w.1.length, 0)
        rw [yb_zy]
        exact ⟨Nat.lt_succ_self _, rfl⟩
      · exact yb_mono (by omega) (hr v hv)) ⟨by obtain ⟨L, hL⟩ := hpre; exact ⟨L ++ [q], by rw [hL, List.append_assoc]⟩, by
      show (ad ++ [q]).length = (w.1 ++ [x]).length
      rw [List.length_append, List.length_append, hlen]
      rfl, hwf.push hok, by rw [hw']; exact hP1, by rw [hw']; exact hD1, hS1⟩
    have hst' : (Sum.inr (w.1.length, 0) :: r).map (zc_v (yb_a (ad ++ [q]))) = .ref q :: r.map (zc_v (yb_a ad)) := by
      rw [List.map_cons, yb_st_app (by rw [hlen]; exact hr)]
      show Value.ref ((ad ++ [q]).getD w.1.length 0) :: _ = _
      rw [List.getD_eq_getElem?_getD, ← hlen, List.getElem?_append_right (Nat.le_refl _), Nat.sub_self]
      rfl
    rw [hst'] at k
    exact k
  have same : ∀ {k : Nat} {x : yb_C} {ee : va_E} {H1 : Heap} {locs1 : List Loc} {pc' : Nat} {r : List zm_V}, k < w.1.length → yb_ok w.1.length x → yb_e tc ad x = ee → va_P D cl ((yb_w tc ad w.1).set k (ad.getD k 0, ee)) H1 → va_D A ((yb_w tc ad w.1).set k (ad.getD k 0, ee)) → va_S A s.heap H1 locs1 → (∀ v ∈ r, zv_ok (yb_Y w.1.length) v) → K pc' lo r (w.1.set k x, w.2) = some t → W p l e R s m args below meth c H1 locs1 w.2.1 w.2.2 Q (F0 m pc' ls (r.map (zc_v (yb_a ad)))) := by
    intro k x ee H1 locs1 pc' r hk hok hee hP1 hD1 hS1 hr h
    have hw' : yb_w tc ad (w.1.set k x) = (yb_w tc ad w.1).set k (ad.getD k 0, ee) := by
      rw [← hee, yb_w_set hlen hk]
    exact hK pc' lo r (w.1.set k x, w.2) ad H1 locs1 ls h hw (by
      show zl_ok (yb_Y (w.1.set k x).length) _ _ _ _
      rw [List.length_set]
      exact hl) (by
      show ∀ v ∈ r, zv_ok (yb_Y (w.1.set k x).length) v
      rw [List.length_set]
      exact hr) ⟨hpre, by
      show ad.length = (w.1.set k x).length
      rw [List.length_set]
      exact hlen, hwf.set hok, by rw [hw']; exact hP1, by rw [hw']; exact hD1, hS1⟩
  cases ins
  case iconst n =>
    rw [hnx] at h
    exact lv_iconst hx hb hd rfl (hK _ _ _ _ _ _ _ _ h hw hl (push trivial hst) hP)
  case bipush n =>
    rw [hnx] at h
    exact lv_bipush hx hb hd rfl (hK _ _ _ _ _ _ _ _ h hw hl (push trivial hst) hP)
  case sipush n =>
    rw [hnx] at h
    exact lv_sipush hx hb hd rfl (hK _ _ _ _ _ _ _ _ h hw hl (push trivial hst) hP)
  case iload i =>
    rw [hnx] at h
    obtain ⟨x, hg, h⟩ := li h
    exact lv_iload hx hb hd hg (hK _ _ _ _ _ _ _ _ h hw hl (push trivial hst) hP)
  case iload_n i =>
    rw [hnx] at h
    obtain ⟨x, hg, h⟩ := li h
    exact lv_iload_n hx hb hd rfl hg (hK _ _ _ _ _ _ _ _ h hw hl (push trivial hst) hP)
  case aload i =>
    rw [hnx] at h
    obtain ⟨x, hg, hv, h⟩ := la h
    exact lv_aload hx hb hd hg (hK _ _ _ _ _ _ _ _ h hw hl (push (v := .inr x) hv hst) hP)
  case aload_n i =>
    rw [hnx] at h
    obtain ⟨x, hg, hv, h⟩ := la h
    exact lv_aload_n hx hb hd rfl hg (hK _ _ _ _ _ _ _ _ h hw hl (push (v := .inr x) hv hst) hP)
  case istore i =>
    rw [hnx] at h
    obtain ⟨x, r, rfl, h2⟩ := b1 h
    obtain ⟨hi, h3⟩ := sl h2
    exact lv_istore hx hb hd (zl_has hl) hi rfl (fun ls' hl' => hK _ _ _ _ _ _ _ _ h3 hw (zl_set (v := .inl x) hl trivial hl') (tail hst) hP)
  case istore_n i =>
    rw [hnx] at h
    obtain ⟨x, r, rfl, h2⟩ := b1 h
    obtain ⟨hi, h3⟩ := sl h2
    exact lv_istore_n hx hb hd rfl (zl_has hl) hi rfl (fun ls' hl' => hK _ _ _ _ _ _ _ _ h3 hw (zl_set (v := .inl x) hl trivial hl') (tail hst) hP)
  case astore_n i =>
    rw [hnx] at h
    simp only [yb_ex] at h
    split at h
    · next x r =>
      obtain ⟨hi, h⟩ := sl h
      exact lv_astore_n hx hb hd rfl (zl_has hl) hi rfl (fun ls' hl' => hK _ _ _ _ _ _ _ _ h hw (zl_set (v := .inr x) hl (hst _ List.mem_cons_self) hl') (tail hst) hP)
    · cases h
  case iinc i n =>
    rw [hnx] at h
    simp only [yb_ex] at h
    unfold zm_li at h
    split at h
    · next x hx0 =>
      obtain ⟨hi, h⟩ := sl h
      obtain ⟨k0, hk0⟩ := List.getElem?_of_mem (zl_mem.mpr ⟨.inl x, hx0, rfl⟩ : (i, zc_v (yb_a ad) (.inl x)) ∈ zl_l (yb_a ad) lo)
      exact lv_iinc hx hb hd (zl_has hl) hk0 rfl hi rfl (fun ls' hl' => hK _ _ _ _ _ _ _ _ h hw (zl_set (v := .inl (x + Int32.ofInt n)) hl trivial hl') hst hP)
    · cases h
  case ior =>
    rw [hnx] at h
    obtain ⟨x, y, r, rfl, h⟩ := b2 h
    exact lv_ior hx hb hd (hK _ _ _ _ _ _ _ _ h hw hl (push trivial (tail (tail hst))) hP)
  case ishl =>
    rw [hnx] at h
    obtain ⟨x, y, r, rfl, h⟩ := b2 h
    exact lv_ishl hx hb hd (hK _ _ _ _ _ _ _ _ h hw hl (push trivial (tail (tail hst))) hP)
  case dup =>
    rw [hnx] at h
    simp only [yb_ex] at h
    split at h
    · next v r => exact lv_dup hx hb hd (zc_v_cat (yb_a ad) v) (hK _ _ _ _ _ _ _ _ h hw hl (push (hst _ List.mem_cons_self) hst) hP)
    · cases h
  case goto o =>
    obtain ⟨tg, ht, h⟩ := tj htg h
    exact lv_goto hx hb hd ht (hK _ _ _ _ _ _ _ _ h hw hl hst hP)
  case if_icmp cn o =>
    rw [hnx] at h
    obtain ⟨x, y, r, rfl, h⟩ := b2 h
    obtain ⟨tg, ht, h⟩ := tj htg h
    have go : ∀ pc', K pc' lo r w = some t → W p l e R s m args below meth c H locs w.2.1 w.2.2 Q (F0 m pc' ls (r.map (zc_v (yb_a ad)))) := fun pc' h => hK _ _ _ _ _ _ _ _ h hw hl (tail (tail hst)) hP
    cases cn <;> simp only [zm_cm] at h <;> split at h <;> rename_i hc
    · exact lv_icmp_eq hx hb hd ht (fun _ => go _ h) (fun z => absurd hc z)
    · exact lv_icmp_eq hx hb hd ht (fun z => absurd z hc) (fun _ => go _ h)
    · exact lv_icmp_ne hx hb hd ht (fun z => absurd hc z) (fun _ => go _ h)
    · exact lv_icmp_ne hx hb hd ht (fun _ => go _ h) (fun z => absurd z hc)
    · exact lv_icmp_lt hx hb hd ht (fun _ => go _ h) (fun z => absurd hc z)
    · exact lv_icmp_lt hx hb hd ht (fun z => absurd z hc) (fun _ => go _ h)
    · exact lv_icmp_ge hx hb hd ht (fun z => absurd hc (Int32.not_lt.mpr z)) (fun _ => go _ h)
    · exact lv_icmp_ge hx hb hd ht (fun _ => go _ h) (fun z => absurd (Int32.not_lt.mp hc) z)
    · exact lv_icmp_gt hx hb hd ht (fun _ => go _ h) (fun z => absurd hc z)
    · exact lv_icmp_gt hx hb hd ht (fun z => absurd z hc) (fun _ => go _ h)
    · exact lv_icmp_le hx hb hd ht (fun z => absurd hc (Int32.not_lt.mpr z)) (fun _ => go _ h)
    · exact lv_icmp_le hx hb hd ht (fun _ => go _ h) (fun z => absurd (Int32.not_lt.mp hc) z)
  case new i =>
    rw [hnx] at h
    simp only [yb_ex] at h
    split at h
    · next ci hci =>
      split at h
      · next hm =>
        obtain ⟨C, T', N, q1, q2, q3, q4, q5, ty0, q6, q7, q8⟩ := hN i ci hci
        have hlenN : (df ci).length = N := by rw [q8, List.length_map, List.length_range]
        rw [hlenN] at h hm
        have hm2 := ml hm
        refine va_new (ci := ci) (fs := (df ci).map (yb_f ad)) (C := C) (T := T') (N := N) hx hb hts q2 ty0 q6 hown (hts _ q3) (hts _ q4) (hts _ q5) hK0 hPP hDD hSS hA q1 ?_ hm2.1 hm2.2 hd ?_
        · intro j hj
          rw [q8, List.map_map]
          show _ = List.getD _ j _
          rw [List.getD_eq_getElem?_getD, List.getElem?_map, List.getElem?_range hj]
          exact (yb_d_ok (q7 j hj) ad).symm
        · intro q H1 hP1 hD1 hS1
          refine grow (x := .inl (ci, df ci)) ?_ ?_ hP1 hD1 hS1 hm hst h
          · rw [q8]
            exact yb_df_ok
          · refine (yb_e_app (c := .inl (ci, df ci)) ?_).trans rfl
            rw [q8]
            exact yb_df_ok
      · cases h
    · cases h
  case newarray a =>
    rw [hnx] at h
    simp only [yb_ex] at h
    split at h
    · next n r =>
      split at h
      · next ty hty =>
        split at h
        · cases h
        · next hn =>
          have hn0 : ¬ n < 0 := fun q => hn (Or.inl q)
          have hn1 : n.toNatClampNeg < 100000 := Nat.not_le.mp fun q => hn (Or.inr q)
          split at h
          · next hm =>
            have hm2 := ml hm
            cases a <;> first | cases hty | skip
            · refine va_newa (atype := .boolean) (a0 := (n.toNatClampNeg, .inl fun _ => 0)) hx hb (yb_ac (hK0.2 1 _ rfl).1 (hK0.2 1 _ rfl).2) rfl hK0 hPP hDD hSS hA (fun _ => rfl) hn0 rfl ?_ hm2.1 hm2.2 hd ?_
              · show n.toNatClampNeg * 1 ≤ _
                omega
              · intro q cA H1 hK1 hP1 hD1 hS1
                have hcA : cA = tc 1 := Option.some.inj ((hK1.2 3 _ rfl).2.symm.trans (hK0.2 1 _ rfl).2)
                subst hcA
                exact grow (x := .inr (1, n.toNatClampNeg, .inl fun _ => 0)) trivial rfl hP1 hD1 hS1 hm (tail hst) h
            · refine va_newa (atype := .int) (a0 := (n.toNatClampNeg, .inl fun _ => 0)) hx hb (yb_ac (hK0.2 0 _ rfl).1 (hK0.2 0 _ rfl).2) rfl hK0 hPP hDD hSS hA (fun _ => rfl) hn0 rfl ?_ hm2.1 hm2.2 hd ?_
              · show n.toNatClampNeg * 4 ≤ _
                omega
              · intro q cA H1 hK1 hP1 hD1 hS1
                have hcA : cA = tc 0 := Option.some.inj ((hK1.2 3 _ rfl).2.symm.trans (hK0.2 0 _ rfl).2)
                subst hcA
                exact grow (x := .inr (0, n.toNatClampNeg, .inl fun _ => 0)) trivial rfl hP1 hD1 hS1 hm (tail hst) h
          · cases h
      · cases h
    · cases h
  case anewarray i =>
    rw [hnx] at h
    simp only [yb_ex] at h
    split at h
    · next n r =>
      split at h
      · next ci hci =>
        split at h
        · cases h
        · next hn =>
          have hn0 : ¬ n < 0 := fun q => hn (Or.inl q)
          have hn1 : n.toNatClampNeg < 100000 := Nat.not_le.mp fun q => hn (Or.inr q)
          split at h
          · next hm0 =>
            rw [Bool.and_eq_true] at hm0
            obtain ⟨hcf, hm⟩ := hm0
            have hcf := Nat.eq_of_beq_eq_true hcf
            subst hcf
            have hm2 := ml hm
            obtain ⟨C, T', N, q1, q2, q3, q4, q5, ty0, q6, q7, q8⟩ := hN i ci hci
            have hCE : C = E := by
              rw [q1] at hfr
              exact Option.some.inj hfr
            subst hCE
            refine va_newq (C := C) hx hb hown (hts _ q3) hAO hK0 hPP hDD hSS hA hn0 rfl (by omega) hm2.1 hm2.2 hd ?_
            intro q cA H1 hK1 hP1 hD1 hS1
            have hcA : cA = tc 2 := by
              obtain ⟨_, _, -, -, -, z1⟩ := (hK1.2 3 _ rfl).2
              obtain ⟨_, _, -, -, -, z2⟩ := (hK0.2 2 _ rfl).2
              exact Option.some.inj (z1.symm.trans z2)
            subst hcA
            exact grow (x := .inr (2, n.toNatClampNeg, .inr fun _ => none)) (fun j k z => by cases z) rfl hP1 hD1 hS1 hm (tail hst) h
          · cases h
      · cases h
    · cases h
  case putfield i =>
    rw [hnx] at h
    simp only [yb_ex] at h
    split at h
    · next x q r =>
      split at h
      · next c' j hcj =>
        split at h
        · next ci fs hq =>
          split at h
          · next hcb =>
            rw [Bool.and_eq_true] at hcb
            have hcc := Nat.eq_of_beq_eq_true hcb.1
            subst hcc
            have hjl : j < fs.length := by
              have := hcb.2
              rw [Nat.blt_eq] at this
              exact this
            obtain ⟨C, T', N, q1, q2, q3, q4, ⟨ty0, q5, q6⟩, q7, q8, q9⟩ := hF i ci j hcj
            have hql : q.1 < w.1.length := (List.getElem?_eq_some_iff.mp hq).1
            have hnar : narrow (ty0 j) (.ref (yb_a ad x)) = .ref (yb_a ad x) ∧ fits (ty0 j) (.ref (yb_a ad x)) = true := by
              rcases q6 with ⟨E', hE⟩ | ⟨E', hE⟩
              · rw [hE]
                exact ⟨rfl, rfl⟩
              · rw [hE]
                exact ⟨rfl, rfl⟩
            refine va_putF (C := C) (T := T') (N := N) (ci := ci) hx hb hts q3 ty0 q5 q7 hown hK0 hPP hDD hSS q.1 (ref_at hq) q1 j q2 (hts _ q4) (fun _ z => z) q8 (hnm ⟨i, _, hcj⟩) q9 (q5 j q2) hnar.1 hnar.2 (by rw [List.length_map]; exact hjl) hd ?_
            intro H1 locs1 hP1 hD1 hS1
            refine same (k := q.1) (x := .inl (ci, fs.set j (some (.inr x)))) hql ?_ ?_ hP1 hD1 hS1 (tail (tail hst)) h
            · intro v hv
              rcases List.mem_or_eq_of_mem_set hv with z | z
              · exact (hwf _ (List.mem_of_getElem? hq)) v z
              · cases z
                exact hst _ List.mem_cons_self
            · show (Sum.inr (ci, (fs.set j (some (.inr x))).map (yb_f ad)) : va_E) = _
              rw [List.map_set]
              rfl
          · cases h
        · cases h
      · cases h
    · cases h
  case getfield i =>
    rw [hnx] at h
    simp only [yb_ex] at h
    split at h
    · next q r =>
      split at h
      · next c' j hcj =>
        split at h
        · next ci fs hq =>
          split at h
          · next hcb =>
            have hcc := Nat.eq_of_beq_eq_true hcb
            subst hcc
            split at h
            · next v hv =>
              obtain ⟨C, T', N, q1, q2, q3, q4, -, -, -, -⟩ := hF i ci j hcj
              refine va_get (C := C) (T := T') (N := N) (ci := ci) (v := zc_v (yb_a ad) v) hx hb hts q3 hown hK0 hPP q.1 (ref_at hq) q1 j q2 (hts _ q4) (fun _ z => z) (by rw [List.getElem?_map, hv]; rfl) hd ?_
              exact hK _ _ _ _ _ _ _ _ h hw hl (push ((hwf _ (List.mem_of_getElem? hq)) v (List.mem_of_getElem? hv)) (tail hst)) hP
            · cases h
          · cases h
        · cases h
      · cases h
    · cases h
  case iastore =>
    rw [hnx] at h
    simp only [yb_ex] at h
    split at h
    · next x i q r =>
      split at h
      · next n f hq =>
        split at h
        · cases h
        · next hin =>
          have hql : q.1 < w.1.length := (List.getElem?_eq_some_iff.mp hq).1
          refine va_iast (f := f) hx hb hK0 hPP hDD hSS q.1 0 (ref_at hq) rfl hin hd ?_
          intro H1 locs1 hP1 hD1 hS1
          exact same (k := q.1) (x := .inr (0, n, .inl (upd f i.toNatClampNeg x))) hql trivial rfl hP1 hD1 hS1 (tail (tail (tail hst))) h
      · cases h
    · cases h
  case aastore =>
    rw [hnx] at h
    simp only [yb_ex] at h
    split at h
    · next x i q r =>
      split at h
      · next n f hq =>
        split at h
        · next ci vs hxv =>
          split at h
          · next hcf =>
            have hcf := Nat.eq_of_beq_eq_true hcf
            subst hcf
            split at h
            · cases h
            · next hin =>
              have hql : q.1 < w.1.length := (List.getElem?_eq_some_iff.mp hq).1
              have hxl : x.1 < w.1.length := (List.getElem?_eq_some_iff.mp hxv).1
              obtain ⟨r0, hr0, hrE⟩ : ∃ r0, cl[ci]? = some r0 ∧ r0.1 = E := by
                cases hc0 : cl[ci]? with
                | none => rw [hc0] at hfr; cases hfr
                | some r0 => rw [hc0] at hfr; exact ⟨r0, rfl, Option.some.inj hfr⟩
              refine va_astq (r := r0) (f := fun j => (f j).map fun k => ad.getD k 0) hx hb hK0 hPP hDD hSS q.1 2 x.1 ci (ref_at hq) (by rw [hrE]; rfl) (ref_at hxv) hr0 hin hd ?_
              intro H1 locs1 hP1 hD1 hS1
              refine same (k := q.1) (x := .inr (2, n, .inr (va_up f i.toNatClampNeg (some x.1)))) hql ?_ ?_ hP1 hD1 hS1 (tail (tail (tail hst))) h
              · intro j k hjk
                unfold va_up at hjk
                split at hjk
                · cases hjk
                  exact hxl
                · exact (hwf _ (List.mem_of_getElem? hq)) j k hjk
              · have : (fun j => (va_up f i.toNatClampNeg (some x.1) j).map fun k => ad.getD k 0) = va_up (fun j => (f j).map fun k => ad.getD k 0) i.toNatClampNeg (some (yb_a ad x)) := by
                  funext j
                  unfold va_up
                  split <;> rfl
                show (Sum.inl (tc 2, n, .inr (.inr (.inr (.inr fun j => (va_up f i.toNatClampNeg (some x.1) j).map fun k => ad.getD k 0)))) : va_E) = _
                rw [this]
          · cases h
        · cases h
      · cases h
    · cases h
  case invokespecial i =>
    rw [hnx] at h
    simp only [yb_ex] at h
    split at h
    · next hi =>
      split at h
      · next x r =>
        split at h
        · next h8 =>
          have h8 := Nat.le_of_ble_eq_true h8
          obtain ⟨o1, o2, o3⟩ := hO i hi
          refine W.objInit hx hb hown (hts _ o1) (hts _ o2) (hts _ o3) rfl (by rw [hml]; exact hl.2.1) rfl hd hRm.1 ?_ ?_
          · have hr : 2 * (F0 m pc ls ((Sum.inr x :: r).map (zc_v (yb_a ad)))).monitorRoom + ((r.map (zc_v (yb_a ad))).map fun v => v.category).sum ≤ 8 := lv_room (by rw [zk_sum]; exact h8)
            have := hRm.2
            omega
          · refine W.eq (g2 := F0 m (pc + 3) ls (r.map (zc_v (yb_a ad)))) rfl ?_
            exact hK _ _ _ _ _ _ _ _ h hw hl (tail hst) hP
        · cases h
      · cases h
    · next n mc ms f hi =>
      split at h
      · next hm0 =>
        rw [Bool.and_eq_true, Bool.and_eq_true] at hm0
        obtain ⟨⟨h1, h2⟩, hm⟩ := hm0
        have hm2 := ml hm
        obtain ⟨w', hf, hk⟩ := Option.bind_eq_some_iff.mp h
        refine hI i (n, mc, ms, f) hi pc ls st ad0 ad w.1 w' H locs w.2.1 w.2.2 hd hl.2.1 (Nat.le_of_ble_eq_true h1) (Nat.le_of_ble_eq_true h2) hst hP hf hm2.1 hm2.2 ?_
        intro ad' H' locs' hpre' hP'
        obtain ⟨L, rfl⟩ := hpre'
        have hle : ad.length ≤ w'.length := by
          rw [← hP'.2.1, List.length_append]
          omega
        have k := hK (pc + 3) lo (st.drop (n + 1)) (w', w.2.1 + mc, w.2.2 + ms) (ad ++ L) H' locs' ls hk hm (by
          rw [hlen.symm] at hl
          exact yb_l_app hl hle) (fun v hv => yb_mono (by rw [← hlen]; exact hle) (hst v (List.mem_of_mem_drop hv))) hP'
        rw [yb_st_app (by rw [hlen]; exact fun v hv => hst v (List.mem_of_mem_drop hv))] at k
        exact k
      · cases h
    · cases h
  case return_ =>
    simp only [yb_ex] at h
    split at h
    · exact hR w ad H locs pc ls h hw hP hd
    · cases h
  all_goals exact nomatch (show (none : Option T) = some t from h)
set_option maxHeartbeats 4000000 in
theorem yb_go_ok {X : yb_X} (hx : p.tables.exec = Jvm.exec) (hb : c.code = cc) (hown : s.vm.findClass own = some m.cls) (hts : ∀ w ∈ Ts, w.before args s = true) (hK0 : va_K D cl (yb_t tc E) s) (hA : ∀ q, s.heap.size ≤ q → A q) (hnm : (∃ i q, X.1 i = some q) → meth.name = "<init>")
    (hF : ∀ i c k, X.1 i = some (c, k) → yb_f1 cl Ts own i c k) (hN : ∀ i ci, X.2.1 i = some ci → yb_n1 df cl Ts own i ci) (hAO : va_AO E s) (hfr : (cl[fr]?).map (fun q => q.1) = some E)
    (hO : ∀ i, X.2.2 i = some none → Cond.methodLink own i objectInit ∈ Ts ∧ Cond.instanceMethod objectInit ∈ Ts ∧ Cond.code objectInit ⟨#[0xb1]⟩ 1 none ∈ Ts)
    (hI : ∀ i f, X.2.2 i = some (some f) → yi_ok p l e R s m args below meth c Q cc nL D cl tc A i f) (hml : c.maxLocals = nL) (hRm : 1 ≤ R.frames ∧ 20 ≤ R.locals) (hlm : lm.1 ≤ R.cells ∧ lm.2 ≤ R.slots)
    {T : Type} {t : T} {ret : yb_M → Option T} {back : Nat → zm_L → List zm_V → yb_M → Option T} {ad0 : List Nat}
    (hR : ∀ w' ad' H' locs' pc' ls', ret w' = some t → yb_ml lm w'.2.1 w'.2.2 = true → yb_s D cl tc A s.heap ad0 ad' w'.1 H' locs' → decode cc pc' = .ok (.return_, 1) → W p l e R s m args below meth c H' locs' w'.2.1 w'.2.2 Q (F0 m pc' ls' []))
    (hB : ∀ pc' lo' st' w' ad' H' locs' ls', back pc' lo' st' w' = some t → yb_ml lm w'.2.1 w'.2.2 = true → zl_ok (yb_Y w'.1.length) (yb_a ad') ls' nL lo' → (∀ v ∈ st', zv_ok (yb_Y w'.1.length) v) → yb_s D cl tc A s.heap ad0 ad' w'.1 H' locs' → W p l e R s m args below meth c H' locs' w'.2.1 w'.2.2 Q (F0 m pc' ls' (st'.map (zc_v (yb_a ad'))))) :
    ∀ (code : zm_C), (∀ q ∈ code, zm_en cc q) → ∀ pc lo st w ad H locs ls, yb_go df fr lm X ret back code pc lo st w = some t → yb_ml lm w.2.1 w.2.2 = true → zl_ok (yb_Y w.1.length) (yb_a ad) ls nL lo → (∀ v ∈ st, zv_ok (yb_Y w.1.length) v) → yb_s D cl tc A s.heap ad0 ad w.1 H locs → W p l e R s m args below meth c H locs w.2.1 w.2.2 Q (F0 m pc ls (st.map (zc_v (yb_a ad))))
  | [], _, pc, lo, st, w, ad, H, locs, ls, h, _, _, _, _ => by cases h
  | (q, ins, nx, ts) :: code, hen, pc, lo, st, w, ad, H, locs, ls, h, hw, hl, hst, hP => by
    have ih := yb_go_ok hx hb hown hts hK0 hA hnm hF hN hAO hfr hO hI hml hRm hlm hR hB code (fun q hq => hen q (List.mem_cons_of_mem _ hq))
    unfold yb_go at h
    split at h
    · next hq =>
      have hq' : q = pc := Nat.eq_of_beq_eq_true hq
      subst hq'
      refine yb_ex_ok hx hb hown hts hK0 hA hnm hF hN hAO hfr hO hI hml hRm hlm hR ?_ (hen _ List.mem_cons_self) hw hl hst hP h
      intro pc' lo' st' w' ad' H' locs' ls' h' hw' hl' hst' hP'
      split at h'
      · exact hB _ _ _ _ _ _ _ _ h' hw' hl' hst' hP'
      · exact ih _ _ _ _ _ _ _ _ h' hw' hl' hst' hP'
    · exact ih _ _ _ _ _ _ _ _ h hw hl hst hP
set_option maxHeartbeats 4000000 in
theorem yb_rn_ok {X : yb_X} (hx : p.tables.exec = Jvm.exec) (hb : c.code = cc) (hown : s.vm.findClass own = some m.cls) (hts : ∀ w ∈ Ts, w.before args s = true) (hK0 : va_K D cl (yb_t tc E) s) (hA : ∀ q, s.heap.size ≤ q → A q) (hnm : (∃ i q, X.1 i = some q) → meth.name = "<init>")
    (hF : ∀ i c k, X.1 i = some (c, k) → yb_f1 cl Ts own i c k) (hN : ∀ i ci, X.2.1 i = some ci → yb_n1 df cl Ts own i ci) (hAO : va_AO E s) (hfr : (cl[fr]?).map (fun q => q.1) = some E)
    (hO : ∀ i, X.2.2 i = some none → Cond.methodLink own i objectInit ∈ Ts ∧ Cond.instanceMethod objectInit ∈ Ts ∧ Cond.code objectInit ⟨#[0xb1]⟩ 1 none ∈ Ts)
    (hI : ∀ i f, X.2.2 i = some (some f) → yi_ok p l e R s m args below meth c Q cc nL D cl tc A i f) (hml : c.maxLocals = nL) (hRm : 1 ≤ R.frames ∧ 20 ≤ R.locals) (hlm : lm.1 ≤ R.cells ∧ lm.2 ≤ R.slots)
    {T : Type} {t : T} {ret : yb_M → Option T} {ad0 : List Nat}
    (hR : ∀ w' ad' H' locs' pc' ls', ret w' = some t → yb_ml lm w'.2.1 w'.2.2 = true → yb_s D cl tc A s.heap ad0 ad' w'.1 H' locs' → decode cc pc' = .ok (.return_, 1) → W p l e R s m args below meth c H' locs' w'.2.1 w'.2.2 Q (F0 m pc' ls' []))
    {code : zm_C} (hen : ∀ q ∈ code, zm_en cc q) : ∀ (n pc : Nat) (lo : zm_L) (st : List zm_V) (w : yb_M) (ad : List Nat) (H : Heap) (locs : List Loc) (ls : Array Slot), yb_rn df fr lm X ret code n pc lo st w = some t → yb_ml lm w.2.1 w.2.2 = true → zl_ok (yb_Y w.1.length) (yb_a ad) ls nL lo → (∀ v ∈ st, zv_ok (yb_Y w.1.length) v) → yb_s D cl tc A s.heap ad0 ad w.1 H locs → W p l e R s m args below meth c H locs w.2.1 w.2.2 Q (F0 m pc ls (st.map (zc_v (yb_a ad))))
  | 0, pc, lo, st, w, ad, H, locs, ls, h, _, _, _, _ => by cases h
  | n + 1, pc, lo, st, w, ad, H, locs, ls, h, hw, hl, hst, hP => yb_go_ok hx hb hown hts hK0 hA hnm hF hN hAO hfr hO hI hml hRm hlm hR (fun pc' lo' st' w' ad' H' locs' ls' h' hw' hl' hst' hP' => yb_rn_ok hx hb hown hts hK0 hA hnm hF hN hAO hfr hO hI hml hRm hlm hR hen n pc' lo' st' w' ad' H' locs' ls' h' hw' hl' hst' hP') code hen pc lo st w ad H locs ls h hw hl hst hP
end YB
