section ZU
variable {p : Program} {l : Launch} {e : Env} {R : Room} {s : State} {m : MethodId} {args : Array Value} {below : List Frame} {meth : Method} {c : Code} {H : Heap} {locs : List Loc} {cells slots : Nat} {Q : State → Prop}
variable {cc : ByteArray} {pc nL : Nat} {ls : Array Slot} {rest : List Value} {D : va_G} {cl : List vw_C} {tys : List (ClassId × FieldType)} {A : Nat → Prop} {ad : Nat × Nat → Nat} {cA : Nat → ClassId} {Y : zm_Y} {own : String} {Ts : List Cond} {M : zm_M}
/-- a call, whatever it calls: the machine comes behind it -/
def zi_ok (p : Program) (l : Launch) (e : Env) (R : Room) (s : State) (m : MethodId) (args : Array Value) (below : List Frame) (meth : Method) (c : Code) (cells slots : Nat) (Q : State → Prop) (cc : ByteArray) (nL : Nat) (D : va_G) (cl : List vw_C) (A : Nat → Prop) (ad : Nat × Nat → Nat) (cA : Nat → ClassId) (Y : zm_Y) (key : Nat) (F : Option zm_F) : Prop :=
  ∀ (i pc : Nat) (ls : Array Slot) (st : List zm_V) (M : zm_M) (H : Heap) (locs : List Loc) (ins : Jvm.ClassFile.Instr), ((key = 2 * i + 1 ∧ ins = .invokevirtual i) ∨ (key = 2 * i ∧ ins = .invokestatic i)) → decode cc pc = .ok (ins, 3) → ls.size = nL → (∀ v ∈ st, zv_ok Y v) → zs_at D cl Y ad cA A s.heap M H locs →
    ∀ (T : Type) (t : T) (K : List zm_V → zm_M → Option T), zm_iv F K st M = some t →
      (∀ (st' : List zm_V) (M' : zm_M) (H' : Heap) (locs' : List Loc), K st' M' = some t → (∀ v ∈ st', zv_ok Y v) → zs_at D cl Y ad cA A s.heap M' H' locs' → W p l e R s m args below meth c H' locs' cells slots Q (F0 m (pc + 3) ls (st'.map (zc_v ad)))) →
      W p l e R s m args below meth c H locs cells slots Q (F0 m pc ls (st.map (zc_v ad)))
def zm_rt : Option zm_V → Jvm.ClassFile.Instr
  | none => .return_
  | some (.inl _) => .ireturn
  | some (.inr _) => .areturn
set_option maxHeartbeats 4000000 in
set_option maxRecDepth 100000 in
theorem zm_ex_ok {X : zm_X} (hx : p.tables.exec = Jvm.exec) (hb : c.code = cc) (hown : s.vm.findClass own = some m.cls) (hts : ∀ w ∈ Ts, w.before args s = true) (hG : zg_ok Y cl tys ad cA A) (hK0 : va_K D cl tys s) (hF : zf_ok Y cl Ts own X.1)
    (hC : ∀ i v, X.2.1 i = some v → Cond.constant own i v ∈ Ts) (hT : ∀ r, zy_k Y r.1 = 4 → va_T .int (ad r) (zy_n Y r.1) (fun j => .int (zy_t Y r.1 j)) A s s.heap)
    (hZ : ∀ i q, X.2.2.1 i = some q → zy_ok Y q ∧ ∃ C n d, va_Z C n d (.ref (ad q)) A s s.heap ∧ (Cond.fieldLink own i C n d ∈ Ts ∨ ∃ host, Cond.fieldLinkNest own i C n d host ∈ Ts))
    (hI : ∀ i, zi_ok p l e R s m args below meth c cells slots Q cc nL D cl A ad cA Y i (X.2.2.2 i))
    {T : Type} {t : T} {ret : Option zm_V → zm_M → Option T} {K : Nat → zm_L → List zm_V → zm_M → Option T} {nx : Nat} {ts : List Nat} {lo : zm_L} {st : List zm_V} {ins : Jvm.ClassFile.Instr}
    (hR : ∀ v M' H' locs' pc' ls', ret v M' = some t → (∀ w ∈ v, zv_ok Y w) → zs_at D cl Y ad cA A s.heap M' H' locs' → decode cc pc' = .ok (zm_rt v, 1) → W p l e R s m args below meth c H' locs' cells slots Q (F0 m pc' ls' (v.toList.map (zc_v ad))))
    (hK : ∀ pc' lo' st' M' H' locs' ls', K pc' lo' st' M' = some t → zl_ok Y ad ls' nL lo' → (∀ v ∈ st', zv_ok Y v) → zs_at D cl Y ad cA A s.heap M' H' locs' → W p l e R s m args below meth c H' locs' cells slots Q (F0 m pc' ls' (st'.map (zc_v ad))))
    (hen : zm_en cc (pc, ins, nx, ts)) (hl : zl_ok Y ad ls nL lo) (hst : ∀ v ∈ st, zv_ok Y v) (hP : zs_at D cl Y ad cA A s.heap M H locs)
    (h : zm_ex Y X ret K nx ts lo st M ins = some t) : W p l e R s m args below meth c H locs cells slots Q (F0 m pc ls (st.map (zc_v ad))) := by
  obtain ⟨hd, hnx, htg⟩ := hen
  dsimp only at hd hnx htg
  have push : ∀ {v : zm_V} {r : List zm_V}, zv_ok Y v → (∀ w ∈ r, zv_ok Y w) → ∀ w ∈ v :: r, zv_ok Y w := fun hv hr w hw => by
    rcases List.mem_cons.mp hw with rfl | hw
    · exact hv
    · exact hr w hw
  have tail : ∀ {v : zm_V} {r : List zm_V}, (∀ w ∈ v :: r, zv_ok Y w) → ∀ w ∈ r, zv_ok Y w := fun h w hw => h w (List.mem_cons_of_mem _ hw)
  have li : ∀ {i : Nat} {k : Int32 → Option T}, zm_li lo i k = some t → ∃ x, ls[i]? = some (.val (.int x)) ∧ k x = some t := by
    intro i k hk
    unfold zm_li at hk
    split at hk
    · next x hx => exact ⟨x, (hl.2.2.2 i _ hx).1, hk⟩
    · cases hk
  have la : ∀ {i : Nat} {k : Nat × Nat → Option T}, zm_la lo i k = some t → ∃ x, ls[i]? = some (.val (.ref (ad x))) ∧ zy_ok Y x ∧ k x = some t := by
    intro i k hk
    unfold zm_la at hk
    split at hk
    · next x hx => exact ⟨x, (hl.2.2.2 i _ hx).1, (hl.2.2.2 i _ hx).2, hk⟩
    · cases hk
  have sl : ∀ {i : Nat} {v : zm_V} {k : zm_L → Option T}, zm_sl lo i v k = some t → i < nL ∧ k (lo.set i (some v)) = some t := by
    intro i v k hk
    unfold zm_sl at hk
    split at hk
    · next x hx => exact ⟨by rw [← hl.1]; exact (List.getElem?_eq_some_iff.mp hx).1, hk⟩
    · cases hk
  have b1 : ∀ {k : Int32 → List zm_V → Option T}, zm_b1 st k = some t → ∃ x r, st = .inl x :: r ∧ k x r = some t := by
    intro k hk
    unfold zm_b1 at hk
    split at hk
    · next x r => exact ⟨x, r, rfl, hk⟩
    · cases hk
  have b2 : ∀ {k : Int32 → Int32 → List zm_V → Option T}, zm_b2 st k = some t → ∃ x y r, st = .inl y :: .inl x :: r ∧ k x y r = some t := by
    intro k hk
    unfold zm_b2 at hk
    split at hk
    · next y x r => exact ⟨x, y, r, rfl, hk⟩
    · cases hk
  have tj : ∀ {o : Int} {k : Nat → Option T}, zm_tj pc ts o = true → zm_t0 ts k = some t → ∃ tg : Nat, (pc : Int) + o = (tg : Int) ∧ k tg = some t := by
    intro o k h1 h2
    unfold zm_tj at h1
    unfold zm_t0 at h2
    split at h1
    · next a b => exact ⟨a, of_decide_eq_true h1, h2⟩
    · cases h1
  cases ins
  case iconst n =>
    rw [hnx] at h
    exact lv_iconst hx hb hd rfl (hK _ _ _ _ _ _ _ h hl (push trivial hst) hP)
  case bipush n =>
    rw [hnx] at h
    exact lv_bipush hx hb hd rfl (hK _ _ _ _ _ _ _ h hl (push trivial hst) hP)
  case sipush n =>
    rw [hnx] at h
    exact lv_sipush hx hb hd rfl (hK _ _ _ _ _ _ _ h hl (push trivial hst) hP)
  case ldc i =>
    rw [hnx] at h
    simp only [zm_ex] at h
    split at h
    · next v hv => exact lv_ldc hx hb hown (hts _ (hC i v hv)) hd (hK _ _ _ _ _ _ _ h hl (push trivial hst) hP)
    · cases h
  case iload i =>
    rw [hnx] at h
    obtain ⟨x, hg, h⟩ := li h
    exact lv_iload hx hb hd hg (hK _ _ _ _ _ _ _ h hl (push trivial hst) hP)
  case iload_n i =>
    rw [hnx] at h
    obtain ⟨x, hg, h⟩ := li h
    exact lv_iload_n hx hb hd rfl hg (hK _ _ _ _ _ _ _ h hl (push trivial hst) hP)
  case aload i =>
    rw [hnx] at h
    obtain ⟨x, hg, hv, h⟩ := la h
    exact lv_aload hx hb hd hg (hK _ _ _ _ _ _ _ h hl (push hv hst) hP)
  case aload_n i =>
    rw [hnx] at h
    obtain ⟨x, hg, hv, h⟩ := la h
    exact lv_aload_n hx hb hd rfl hg (hK _ _ _ _ _ _ _ h hl (push hv hst) hP)
  case istore i =>
    rw [hnx] at h
    obtain ⟨x, r, rfl, h2⟩ := b1 h
    obtain ⟨hi, h3⟩ := sl h2
    exact lv_istore hx hb hd (zl_has hl) hi rfl (fun ls' hl' => hK _ _ _ _ _ _ _ h3 (zl_set (v := .inl x) hl trivial hl') (tail hst) hP)
  case istore_n i =>
    rw [hnx] at h
    obtain ⟨x, r, rfl, h2⟩ := b1 h
    obtain ⟨hi, h3⟩ := sl h2
    exact lv_istore_n hx hb hd rfl (zl_has hl) hi rfl (fun ls' hl' => hK _ _ _ _ _ _ _ h3 (zl_set (v := .inl x) hl trivial hl') (tail hst) hP)
  case astore i =>
    rw [hnx] at h
    simp only [zm_ex] at h
    split at h
    · next x r =>
      obtain ⟨hi, h⟩ := sl h
      exact lv_astore hx hb hd (zl_has hl) hi rfl (fun ls' hl' => hK _ _ _ _ _ _ _ h (zl_set (v := .inr x) hl (hst _ List.mem_cons_self) hl') (tail hst) hP)
    · cases h
  case astore_n i =>
    rw [hnx] at h
    simp only [zm_ex] at h
    split at h
    · next x r =>
      obtain ⟨hi, h⟩ := sl h
      exact lv_astore_n hx hb hd rfl (zl_has hl) hi rfl (fun ls' hl' => hK _ _ _ _ _ _ _ h (zl_set (v := .inr x) hl (hst _ List.mem_cons_self) hl') (tail hst) hP)
    · cases h
  case iinc i n =>
    rw [hnx] at h
    simp only [zm_ex] at h
    unfold zm_li at h
    split at h
    · next x hx0 =>
      obtain ⟨hi, h⟩ := sl h
      obtain ⟨k0, hk0⟩ := List.getElem?_of_mem (zl_mem.mpr ⟨.inl x, hx0, rfl⟩ : (i, zc_v ad (.inl x)) ∈ zl_l ad lo)
      exact lv_iinc hx hb hd (zl_has hl) hk0 rfl hi rfl (fun ls' hl' => hK _ _ _ _ _ _ _ h (zl_set (v := .inl (x + Int32.ofInt n)) hl trivial hl') hst hP)
    · cases h
  case iadd =>
    rw [hnx] at h
    obtain ⟨x, y, r, rfl, h⟩ := b2 h
    exact lv_iadd hx hb hd (hK _ _ _ _ _ _ _ h hl (push trivial (tail (tail hst))) hP)
  case isub =>
    rw [hnx] at h
    obtain ⟨x, y, r, rfl, h⟩ := b2 h
    exact lv_isub hx hb hd (hK _ _ _ _ _ _ _ h hl (push trivial (tail (tail hst))) hP)
  case imul =>
    rw [hnx] at h
    obtain ⟨x, y, r, rfl, h⟩ := b2 h
    exact lv_imul hx hb hd (hK _ _ _ _ _ _ _ h hl (push trivial (tail (tail hst))) hP)
  case iand =>
    rw [hnx] at h
    obtain ⟨x, y, r, rfl, h⟩ := b2 h
    exact lv_iand hx hb hd (hK _ _ _ _ _ _ _ h hl (push trivial (tail (tail hst))) hP)
  case ior =>
    rw [hnx] at h
    obtain ⟨x, y, r, rfl, h⟩ := b2 h
    exact lv_ior hx hb hd (hK _ _ _ _ _ _ _ h hl (push trivial (tail (tail hst))) hP)
  case ixor =>
    rw [hnx] at h
    obtain ⟨x, y, r, rfl, h⟩ := b2 h
    exact lv_ixor hx hb hd (hK _ _ _ _ _ _ _ h hl (push trivial (tail (tail hst))) hP)
  case ishl =>
    rw [hnx] at h
    obtain ⟨x, y, r, rfl, h⟩ := b2 h
    exact lv_ishl hx hb hd (hK _ _ _ _ _ _ _ h hl (push trivial (tail (tail hst))) hP)
  case ishr =>
    rw [hnx] at h
    obtain ⟨x, y, r, rfl, h⟩ := b2 h
    exact lv_ishr hx hb hd (hK _ _ _ _ _ _ _ h hl (push trivial (tail (tail hst))) hP)
  case iushr =>
    rw [hnx] at h
    obtain ⟨x, y, r, rfl, h⟩ := b2 h
    exact lv_iushr hx hb hd rfl (hK _ _ _ _ _ _ _ h hl (push trivial (tail (tail hst))) hP)
  case idiv =>
    rw [hnx] at h
    obtain ⟨x, y, r, rfl, h2⟩ := b2 h
    split at h2
    · cases h2
    · next hy => exact lv_idiv hx hb hd hy (hK _ _ _ _ _ _ _ h2 hl (push trivial (tail (tail hst))) hP)
  case irem =>
    rw [hnx] at h
    obtain ⟨x, y, r, rfl, h2⟩ := b2 h
    split at h2
    · cases h2
    · next hy => exact lv_irem hx hb hd hy (hK _ _ _ _ _ _ _ h2 hl (push trivial (tail (tail hst))) hP)
  case ineg =>
    rw [hnx] at h
    obtain ⟨x, r, rfl, h⟩ := b1 h
    exact lv_ineg hx hb hd (hK _ _ _ _ _ _ _ h hl (push trivial (tail hst)) hP)
  case i2b =>
    rw [hnx] at h
    obtain ⟨x, r, rfl, h⟩ := b1 h
    exact lv_i2b hx hb hd rfl (hK _ _ _ _ _ _ _ h hl (push trivial (tail hst)) hP)
  case dup =>
    rw [hnx] at h
    simp only [zm_ex] at h
    split at h
    · next v r => exact lv_dup hx hb hd (zc_v_cat ad v) (hK _ _ _ _ _ _ _ h hl (push (hst _ List.mem_cons_self) hst) hP)
    · cases h
  case pop =>
    rw [hnx] at h
    simp only [zm_ex] at h
    split at h
    · next v r => exact lv_pop hx hb hd (zc_v_cat ad v) (hK _ _ _ _ _ _ _ h hl (tail hst) hP)
    · cases h
  case dup_x1 =>
    rw [hnx] at h
    simp only [zm_ex] at h
    split at h
    · next v w r => exact lv_dup_x1 hx hb hd (zc_v_cat ad v) (zc_v_cat ad w) (hK _ _ _ _ _ _ _ h hl (push (hst _ List.mem_cons_self) (push (hst _ (List.mem_cons_of_mem _ List.mem_cons_self)) (push (hst _ List.mem_cons_self) (tail (tail hst))))) hP)
    · cases h
  case dup2 =>
    rw [hnx] at h
    simp only [zm_ex] at h
    split at h
    · next v w r => exact lv_dup2_11 hx hb hd (zc_v_cat ad v) (zc_v_cat ad w) (hK _ _ _ _ _ _ _ h hl (push (hst _ List.mem_cons_self) (push (hst _ (List.mem_cons_of_mem _ List.mem_cons_self)) hst)) hP)
    · cases h
  case goto o =>
    obtain ⟨tg, ht, h⟩ := tj htg h
    exact lv_goto hx hb hd ht (hK _ _ _ _ _ _ _ h hl hst hP)
  case ifCond cn o =>
    rw [hnx] at h
    obtain ⟨x, r, rfl, h⟩ := b1 h
    obtain ⟨tg, ht, h⟩ := tj htg h
    have go : ∀ pc', K pc' lo r M = some t → W p l e R s m args below meth c H locs cells slots Q (F0 m pc' ls (r.map (zc_v ad))) := fun pc' h => hK _ _ _ _ _ _ _ h hl (tail hst) hP
    cases cn <;> simp only [zm_cm] at h <;> split at h <;> rename_i hc
    · exact lv_if_eq hx hb hd ht (fun _ => go _ h) (fun z => absurd hc z)
    · exact lv_if_eq hx hb hd ht (fun z => absurd z hc) (fun _ => go _ h)
    · exact lv_if_ne hx hb hd ht (fun z => absurd hc z) (fun _ => go _ h)
    · exact lv_if_ne hx hb hd ht (fun _ => go _ h) (fun z => absurd z hc)
    · exact lv_if_lt hx hb hd ht (fun _ => go _ h) (fun z => absurd hc z)
    · exact lv_if_lt hx hb hd ht (fun z => absurd z hc) (fun _ => go _ h)
    · exact lv_if_ge hx hb hd ht (fun z => absurd hc (Int32.not_lt.mpr z)) (fun _ => go _ h)
    · exact lv_if_ge hx hb hd ht (fun _ => go _ h) (fun z => absurd (Int32.not_lt.mp hc) z)
    · exact lv_if_gt hx hb hd ht (fun _ => go _ h) (fun z => absurd hc z)
    · exact lv_if_gt hx hb hd ht (fun z => absurd z hc) (fun _ => go _ h)
    · exact lv_if_le hx hb hd ht (fun z => absurd hc (Int32.not_lt.mpr z)) (fun _ => go _ h)
    · exact lv_if_le hx hb hd ht (fun _ => go _ h) (fun z => absurd (Int32.not_lt.mp hc) z)
  case if_icmp cn o =>
    rw [hnx] at h
    obtain ⟨x, y, r, rfl, h⟩ := b2 h
    obtain ⟨tg, ht, h⟩ := tj htg h
    have go : ∀ pc', K pc' lo r M = some t → W p l e R s m args below meth c H locs cells slots Q (F0 m pc' ls (r.map (zc_v ad))) := fun pc' h => hK _ _ _ _ _ _ _ h hl (tail (tail hst)) hP
    cases cn <;> simp only [zm_cm] at h <;> split at h <;> rename_i hc
    · exact lv_icmp_eq hx hb hd ht (fun _ => go _ h) (fun z => absurd hc z)
    · exact lv_icmp_eq hx hb hd ht (fun z => absurd z hc) (fun _ => go _ h)
    · exact lv_icmp_ne hx hb hd ht (fun z => absurd hc z) (fun _ => go _ h)
    · exact lv_icmp_ne hx hb hd ht (fun _ => go _ h) (fun z => absurd z hc)
    · exact lv_icmp_lt hx hb hd ht (fun _ => go _ h) (fun z => absurd hc z)
    · exact lv_icmp_lt hx hb hd ht (fun z => absurd z hc) (fun _ => go _ h)
    · exact lv_icmp_ge hx hb hd ht (fun z => absurd hc (Int32.not_lt.mpr z)) (fun _ => go _ h)
    · exact lv_icmp_ge hx hb hd ht (fun _ => go _ h) (fun z => absurd (Int32.not_lt.mp hc) z)
    · exact lv_icmp_gt hx hb hd ht (fun _ => go _ h) (fun z => absurd hc z)
    · exact lv_icmp_gt hx hb hd ht (fun z => absurd z hc) (fun _ => go _ h)
    · exact lv_icmp_le hx hb hd ht (fun z => absurd hc (Int32.not_lt.mpr z)) (fun _ => go _ h)
    · exact lv_icmp_le hx hb hd ht (fun _ => go _ h) (fun z => absurd (Int32.not_lt.mp hc) z)
  case tableswitch df v w offs =>
    obtain ⟨x, r, rfl, h2⟩ := b1 h
    split at h2
    · next d ts' =>
      simp only [zm_tg, Bool.and_eq_true, decide_eq_true_eq] at htg
      obtain ⟨g1, g2, g3, g4, g5⟩ := htg
      rcases zm_sw_ok ts' v h2 with ⟨j, tg, q1, q2, q3⟩ | ⟨q1, q2⟩
      · have hj : j < ts'.length := (List.getElem?_eq_some_iff.mp q1).1
        have hxi : x.toInt = v + (j : Int) := by
          rw [q2]
          exact Int32.toInt_ofInt_of_le (by omega) (by omega)
        have hof : (offs.toList.map (fun o => (pc : Int) + o))[j]? = some (tg : Int) := by
          rw [g3, List.getElem?_map, q1]
          rfl
        rw [List.getElem?_map] at hof
        cases ho : offs.toList[j]? with
        | none => rw [ho] at hof; cases hof
        | some o =>
          rw [ho] at hof
          refine lv_tableIn (off := o) (tgt := tg) hx hb hd (by omega) (by omega) ?_ (Option.some.inj hof) (hK _ _ _ _ _ _ _ q3 hl (tail hst) hP)
          rw [show (x.toInt - v).toNat = j by omega, ← Array.getElem?_toList]
          exact ho
      · refine lv_tableOut (tgt := d) hx hb hd ?_ g1 (hK _ _ _ _ _ _ _ q2 hl (tail hst) hP)
        rcases Int.lt_or_le x.toInt v with z | z
        · exact Or.inl z
        · rcases Int.lt_or_le w x.toInt with z2 | z2
          · exact Or.inr z2
          · exact absurd (by rw [show v + ((x.toInt - v).toNat : Int) = x.toInt by omega, Int32.ofInt_toInt]) (q1 (x.toInt - v).toNat (by omega))
    · cases h2
  case getfield i =>
    rw [hnx] at h
    simp only [zm_ex] at h
    split at h
    · next q r => exact zs_gf hx hb hown hts hG hK0 hF (hst (.inr q) List.mem_cons_self) h hP hd (fun v hv hk => hK _ _ _ _ _ _ _ hk hl (push hv (tail hst)) hP)
    · cases h
  case putfield i =>
    rw [hnx] at h
    simp only [zm_ex] at h
    split at h
    · next x q r => exact zs_pf hx hb hown hts hG hK0 hF (hst (.inr q) (List.mem_cons_of_mem _ List.mem_cons_self)) h hP hd (fun M' H' locs' hk hP' => hK _ _ _ _ _ _ _ hk hl (tail (tail hst)) hP')
    · cases h
  case getstatic i =>
    rw [hnx] at h
    simp only [zm_ex] at h
    split at h
    · next q hq =>
      obtain ⟨hv, C, n, d, hz, hlk⟩ := hZ i q hq
      have k1 := hK _ _ _ _ _ _ _ h hl (push (v := .inr q) hv hst) hP
      rcases hlk with h1 | ⟨host, h1⟩
      · exact va_gets hx hb hz hP.2 hown (hts _ h1) (fun _ h => h) hd k1
      · exact va_getsN hx hb hz hP.2 hown (hts _ h1) (fun _ h => h) hd k1
    · cases h
  case arraylength =>
    rw [hnx] at h
    simp only [zm_ex] at h
    split at h
    · next q r =>
      split at h
      · cases h
      · next hk => exact zs_ln hx hb hG hK0 (hst (.inr q) List.mem_cons_self) (fun z => hk z) (fun z => hT q z) hP hd (hK _ _ _ _ _ _ _ h hl (push trivial (tail hst)) hP)
    · cases h
  case iaload =>
    rw [hnx] at h
    simp only [zm_ex] at h
    split at h
    · next i q r =>
      have hq := hst (.inr q) (List.mem_cons_of_mem _ List.mem_cons_self)
      split at h
      · next hk =>
        split at h
        · cases h
        · next hin => exact zs_il hx hb hG hK0 hq hk hin hP hd (hK _ _ _ _ _ _ _ h hl (push trivial (tail (tail hst))) hP)
      · next hk =>
        split at h
        · cases h
        · next hin => exact va_ti hx hb (hT q hk) hP.2 hin rfl hd (hK _ _ _ _ _ _ _ h hl (push trivial (tail (tail hst))) hP)
      · cases h
    · cases h
  case baload =>
    rw [hnx] at h
    simp only [zm_ex] at h
    split at h
    · next i q r =>
      have hq := hst (.inr q) (List.mem_cons_of_mem _ List.mem_cons_self)
      split at h
      · next hk =>
        split at h
        · cases h
        · next hin => exact zs_bl hx hb hG hK0 hq hk hin hP hd (hK _ _ _ _ _ _ _ h hl (push trivial (tail (tail hst))) hP)
      · cases h
    · cases h
  case aaload =>
    rw [hnx] at h
    simp only [zm_ex] at h
    split at h
    · next i q r =>
      have hq : zy_ok Y q := hst (.inr q) (List.mem_cons_of_mem _ List.mem_cons_self)
      split at h
      · next hk =>
        split at h
        · cases h
        · next hin =>
          have hdm := zs_dom hq hk (by decide)
          have hlt : i.toNatClampNeg < zy_n Y q.1 := Nat.not_le.mp fun z => hin (Or.inr z)
          exact zs_al hx hb hG hK0 hq hk hin hP hd (hK _ _ _ _ _ _ _ h hl (push (v := .inr _) (hG.2.2.2.2.2.2.2.1 q.1 q.2 _ hdm.1 hdm.2 hk hlt) (tail (tail hst))) hP)
      · cases h
    · cases h
  case iastore =>
    rw [hnx] at h
    simp only [zm_ex] at h
    split at h
    · next x i q r =>
      have hq : zy_ok Y q := hst (.inr q) (List.mem_cons_of_mem _ (List.mem_cons_of_mem _ List.mem_cons_self))
      split at h
      · next hk =>
        split at h
        · cases h
        · next hin => exact zs_is hx hb hG hK0 hq hk hin hP hd (fun H' locs' hP' => hK _ _ _ _ _ _ _ h hl (tail (tail (tail hst))) hP')
      · cases h
    · cases h
  case bastore =>
    rw [hnx] at h
    simp only [zm_ex] at h
    split at h
    · next x i q r =>
      have hq : zy_ok Y q := hst (.inr q) (List.mem_cons_of_mem _ (List.mem_cons_of_mem _ List.mem_cons_self))
      split at h
      · next hk =>
        split at h
        · cases h
        · next hin => exact zs_bs hx hb hG hK0 hq hk hin hP hd (fun H' locs' hP' => hK _ _ _ _ _ _ _ h hl (tail (tail (tail hst))) hP')
      · cases h
    · cases h
  case invokevirtual i =>
    rw [hnx] at h
    exact hI (2 * i + 1) i pc ls st M H locs _ (Or.inl ⟨rfl, rfl⟩) hd hl.2.1 hst hP T t _ h (fun st' M' H' locs' hk hs' hP' => hK _ _ _ _ _ _ _ hk hl hs' hP')
  case invokestatic i =>
    rw [hnx] at h
    exact hI (2 * i) i pc ls st M H locs _ (Or.inr ⟨rfl, rfl⟩) hd hl.2.1 hst hP T t _ h (fun st' M' H' locs' hk hs' hP' => hK _ _ _ _ _ _ _ hk hl hs' hP')
  case ireturn =>
    simp only [zm_ex] at h
    split at h
    · next x => exact hR (some (.inl x)) M H locs pc ls h (fun w hw => by cases hw; trivial) hP hd
    · cases h
  case areturn =>
    simp only [zm_ex] at h
    split at h
    · next x => exact hR (some (.inr x)) M H locs pc ls h (fun w hw => by cases hw; exact hst _ List.mem_cons_self) hP hd
    · cases h
  case return_ =>
    simp only [zm_ex] at h
    split at h
    · exact hR none M H locs pc ls h (fun w hw => by cases hw) hP hd
    · cases h
  all_goals exact nomatch (show (none : Option T) = some t from h)
set_option maxHeartbeats 4000000 in
theorem zm_go_ok {X : zm_X} (hx : p.tables.exec = Jvm.exec) (hb : c.code = cc) (hown : s.vm.findClass own = some m.cls) (hts : ∀ w ∈ Ts, w.before args s = true) (hG : zg_ok Y cl tys ad cA A) (hK0 : va_K D cl tys s) (hF : zf_ok Y cl Ts own X.1)
    (hC : ∀ i v, X.2.1 i = some v → Cond.constant own i v ∈ Ts) (hT : ∀ r, zy_k Y r.1 = 4 → va_T .int (ad r) (zy_n Y r.1) (fun j => .int (zy_t Y r.1 j)) A s s.heap)
    (hZ : ∀ i q, X.2.2.1 i = some q → zy_ok Y q ∧ ∃ C n d, va_Z C n d (.ref (ad q)) A s s.heap ∧ (Cond.fieldLink own i C n d ∈ Ts ∨ ∃ host, Cond.fieldLinkNest own i C n d host ∈ Ts))
    (hI : ∀ i, zi_ok p l e R s m args below meth c cells slots Q cc nL D cl A ad cA Y i (X.2.2.2 i))
    {T : Type} {t : T} {ret : Option zm_V → zm_M → Option T} {back : Nat → zm_L → List zm_V → zm_M → Option T}
    (hR : ∀ v M' H' locs' pc' ls', ret v M' = some t → (∀ w ∈ v, zv_ok Y w) → zs_at D cl Y ad cA A s.heap M' H' locs' → decode cc pc' = .ok (zm_rt v, 1) → W p l e R s m args below meth c H' locs' cells slots Q (F0 m pc' ls' (v.toList.map (zc_v ad))))
    (hB : ∀ pc' lo' st' M' H' locs' ls', back pc' lo' st' M' = some t → zl_ok Y ad ls' nL lo' → (∀ v ∈ st', zv_ok Y v) → zs_at D cl Y ad cA A s.heap M' H' locs' → W p l e R s m args below meth c H' locs' cells slots Q (F0 m pc' ls' (st'.map (zc_v ad)))) :
    ∀ (code : zm_C), (∀ q ∈ code, zm_en cc q) → ∀ pc lo st M H locs ls, zm_go Y X ret back code pc lo st M = some t → zl_ok Y ad ls nL lo → (∀ v ∈ st, zv_ok Y v) → zs_at D cl Y ad cA A s.heap M H locs → W p l e R s m args below meth c H locs cells slots Q (F0 m pc ls (st.map (zc_v ad)))
  | [], _, pc, lo, st, M, H, locs, ls, h, _, _, _ => by cases h
  | (q, ins, nx, ts) :: code, hen, pc, lo, st, M, H, locs, ls, h, hl, hst, hP => by
    have ih := zm_go_ok hx hb hown hts hG hK0 hF hC hT hZ hI hR hB code (fun q hq => hen q (List.mem_cons_of_mem _ hq))
    unfold zm_go at h
    split at h
    · next hq =>
      have hq' : q = pc := Nat.eq_of_beq_eq_true hq
      subst hq'
      refine zm_ex_ok hx hb hown hts hG hK0 hF hC hT hZ hI hR ?_ (hen _ List.mem_cons_self) hl hst hP h
      intro pc' lo' st' M' H' locs' ls' h' hl' hst' hP'
      split at h'
      · exact hB _ _ _ _ _ _ _ h' hl' hst' hP'
      · exact ih _ _ _ _ _ _ _ h' hl' hst' hP'
    · exact ih _ _ _ _ _ _ _ h hl hst hP
set_option maxHeartbeats 4000000 in
theorem zm_rn_ok {X : zm_X} (hx : p.tables.exec = Jvm.exec) (hb : c.code = cc) (hown : s.vm.findClass own = some m.cls) (hts : ∀ w ∈ Ts, w.before args s = true) (hG : zg_ok Y cl tys ad cA A) (hK0 : va_K D cl tys s) (hF : zf_ok Y cl Ts own X.1)
    (hC : ∀ i v, X.2.1 i = some v → Cond.constant own i v ∈ Ts) (hT : ∀ r, zy_k Y r.1 = 4 → va_T .int (ad r) (zy_n Y r.1) (fun j => .int (zy_t Y r.1 j)) A s s.heap)
    (hZ : ∀ i q, X.2.2.1 i = some q → zy_ok Y q ∧ ∃ C n d, va_Z C n d (.ref (ad q)) A s s.heap ∧ (Cond.fieldLink own i C n d ∈ Ts ∨ ∃ host, Cond.fieldLinkNest own i C n d host ∈ Ts))
    (hI : ∀ i, zi_ok p l e R s m args below meth c cells slots Q cc nL D cl A ad cA Y i (X.2.2.2 i))
    {T : Type} {t : T} {ret : Option zm_V → zm_M → Option T}
    (hR : ∀ v M' H' locs' pc' ls', ret v M' = some t → (∀ w ∈ v, zv_ok Y w) → zs_at D cl Y ad cA A s.heap M' H' locs' → decode cc pc' = .ok (zm_rt v, 1) → W p l e R s m args below meth c H' locs' cells slots Q (F0 m pc' ls' (v.toList.map (zc_v ad))))
    {code : zm_C} (hen : ∀ q ∈ code, zm_en cc q) : ∀ (n pc : Nat) (lo : zm_L) (st : List zm_V) (M : zm_M) (H : Heap) (locs : List Loc) (ls : Array Slot), zm_rn Y X ret code n pc lo st M = some t → zl_ok Y ad ls nL lo → (∀ v ∈ st, zv_ok Y v) → zs_at D cl Y ad cA A s.heap M H locs → W p l e R s m args below meth c H locs cells slots Q (F0 m pc ls (st.map (zc_v ad)))
  | 0, pc, lo, st, M, H, locs, ls, h, _, _, _ => by cases h
  | n + 1, pc, lo, st, M, H, locs, ls, h, hl, hst, hP => zm_go_ok hx hb hown hts hG hK0 hF hC hT hZ hI hR (fun pc' lo' st' M' H' locs' ls' h' hl' hst' hP' => zm_rn_ok hx hb hown hts hG hK0 hF hC hT hZ hI hR hen n pc' lo' st' M' H' locs' ls' h' hl' hst' hP') code hen pc lo st M H locs ls h hl hst hP
end ZU
