/-! THE LAW'S FRAME: the layout with the script as the constant of sort 63; calls in a frame that has made something -/
def zt_Yl (L : Nat) (xs : Nat → Int32) : zm_Y := ((fun s => match Nat.beq s 63 with
  | true => 4
  | false => zn_at ly_k s 9), (zt_Yx L xs).2)
theorem yv_k {L : Nat} {xs : Nat → Int32} {s : Nat} (h : s ≠ 63) : zy_k (zt_Yl L xs) s = zy_k zt_Y s := by
  show (match Nat.beq s 63 with
    | true => 4
    | false => zn_at ly_k s 9) = zn_at ly_k s 9
  rw [show Nat.beq s 63 = false from nbq_f h]
theorem yv_n {L : Nat} {xs : Nat → Int32} {s : Nat} (h : s ≠ 63) : zy_n (zt_Yl L xs) s = zy_n zt_Y s := by
  show (match Nat.beq s 63 with
    | true => L
    | false => zn_at ly_n s 0) = (match Nat.beq s 63 with
    | true => 0
    | false => zn_at ly_n s 0)
  rw [show Nat.beq s 63 = false from nbq_f h]
theorem yv_e {L : Nat} {xs : Nat → Int32} {ad : Nat × Nat → Nat} {cA : Nat → ClassId} {M : zm_M} {r : Nat × Nat} (h : r.1 ≠ 63) : zc_e (zt_Yl L xs) ad cA M r = zc_e zt_Y ad cA M r := by
  unfold zc_e
  rw [yv_k h, yv_n h]
  rfl
theorem yv_w {L : Nat} {xs : Nat → Int32} {ad : Nat × Nat → Nat} {cA : Nat → ClassId} {M : zm_M} : zc_w (zt_Yl L xs) ad cA M = zc_w zt_Y ad cA M := by
  show (zy_d zt_Y).map _ = (zy_d zt_Y).map _
  apply List.map_congr_left
  intro r hr
  have h := (zy_d_mem.mp hr).1
  have h : r.1 < 62 := h
  rw [yv_e (by omega)]
theorem yv_at {D : va_G} {cl : List vw_C} {L : Nat} {xs : Nat → Int32} {ad : Nat × Nat → Nat} {cA : Nat → ClassId} {A : Nat → Prop} {H0 H : Heap} {M : zm_M} {locs : List Loc} : zs_at D cl (zt_Yl L xs) ad cA A H0 M H locs ↔ zs_at D cl zt_Y ad cA A H0 M H locs := by
  unfold zs_at
  rw [yv_w]
theorem yv_ok {L : Nat} {xs : Nat → Int32} {r : Nat × Nat} (h : r.1 ≠ 63) : zy_ok (zt_Yl L xs) r ↔ zy_ok zt_Y r := by
  unfold zy_ok
  rw [yv_k h]
  exact Iff.rfl
theorem yv_G {L : Nat} {xs : Nat → Int32} {cl : List vw_C} {tys : List (ClassId × FieldType)} {ad : Nat × Nat → Nat} {cA : Nat → ClassId} {A : Nat → Prop} (h : zg_ok zt_Y cl tys ad cA A) : zg_ok (zt_Yl L xs) cl tys ad cA A := by
  obtain ⟨h1, h2, h3, h4, h5, h6, h7, h8, h9, h10⟩ := h
  have k : ∀ s, s < 62 → zy_k (zt_Yl L xs) s = zy_k zt_Y s := fun s hs => yv_k (by omega)
  have n : ∀ s, s < 62 → zy_n (zt_Yl L xs) s = zy_n zt_Y s := fun s hs => yv_n (by omega)
  refine ⟨fun M => by rw [yv_w]; exact h1 M, h2, fun s hs hk => h3 s hs (by rw [← k s hs]; exact hk), fun s hs hk => h4 s hs (by rw [← k s hs]; exact hk), fun s hs hk => h5 s hs (by rw [← k s hs]; exact hk), fun s hs hk => ?_, fun s i k' q hs hi hq => ?_, fun s i j hs hi hk hj => ?_, fun s hs => by rw [k s hs]; exact h9 s hs, fun s i k' hs hk hf => h10 s i k' hs (by rw [← k s hs]; exact hk) hf⟩
  · rw [n s hs]
    exact h6 s hs (by rw [← k s hs]; exact hk)
  · have h := h7 s i k' q hs hi hq
    rcases h with h | h
    · refine Or.inl ?_
      by_cases e : q.1 = 63
      · rw [e] at h
        exact absurd h (by decide)
      · rw [yv_k e]
        exact h
    · exact Or.inr h
  · have h := h8 s i j hs hi (by rw [← k s hs]; exact hk) (by rw [← n s hs]; exact hj)
    rcases h with h | h
    · refine Or.inl ?_
      by_cases e : (zy_e (zt_Yl L xs) s i j).1 = 63
      · have h : zy_k zt_Y (zy_e (zt_Yl L xs) s i j).1 = 4 := h
        rw [e] at h
        exact absurd h (by decide)
      · rw [yv_k e]
        exact h
    · exact Or.inr h
/-- a callee that doesn't get the script -/
def zm_nx {T : Type} (f : List zm_V → zm_M → Option T) (av : List zm_V) (M : zm_M) : Option T := match av.all (fun v => match v with
    | .inr r => !Nat.beq r.1 63
    | .inl _ => true) with
  | true => f av M
  | false => none
section YV
variable {p : Program} {l : Launch} {e : Env} {R : Room} {s : State} {m : MethodId} {args : Array Value} {below : List Frame} {meth : Method} {c : Code} {H : Heap} {locs : List Loc} {Q : State → Prop}
variable {cc cy : ByteArray} {pc nL maxL n i cells slots ci : Nat} {ls : Array Slot} {rest st0 : List Value} {D : va_G} {cl : List vw_C} {tys : List (ClassId × FieldType)} {A : Nat → Prop} {ad : Nat × Nat → Nat} {cA : Nat → ClassId} {own : String} {Ts : List Cond} {M : zm_M} {Zs : zk_Zs} {y : MethodName} {d' : Nat × Nat} {ret : Option FieldType}
theorem yv_call {Y : zm_Y} {v : Option zm_V} {M' : zm_M} {a : Array Value} (hr : va_Run p l e R s m args below meth c H locs cells slots 0 0 (F0 m pc ls st0) rest (zk_po Y cl D ad cA A v M' a) A) (hS : va_S A s.heap H locs)
    (kk : ∀ H1 locs1, (∀ w ∈ v, zv_ok Y w) → zs_at D cl Y ad cA A s.heap M' H1 locs1 → W p l e R s m args below meth c H1 locs1 cells slots Q (F0 m (pc + 3) ls ((v.map (zc_v ad)).toList ++ rest))) : W p l e R s m args below meth c H locs cells slots Q (F0 m pc ls st0) := by
  intro T hT X
  obtain ⟨v', st₀, t, T', L, h0, X', hL, e1, e2, ⟨hv, hvv, hP', hz, hk⟩, st⟩ := hr T hT X
  cases hv
  rw [h0] at hz hk
  obtain ⟨t2, a1, b1⟩ := kk T'.heap (locs ++ L) hvv ⟨by rw [e1]; exact hP', Nat.le_trans hS.1 (by rw [e1]; exact hz), fun q h1 h2 => by rw [e1, hk q (Nat.lt_of_lt_of_le h1 hS.1) h2]; exact hS.2.1 q h1 h2, fun q hq => by
      rcases List.mem_append.mp hq with h | h
      · exact hS.2.2 q h
      · exact hL q h⟩ T' rfl X'
  exact ⟨t2, st t2 a1, b1⟩
theorem yv_V {F : List zm_V → zm_M → Option (Int32 × zm_M)} {L : Nat} {xs : Nat → Int32} (hTs : ∀ w ∈ Ts, zk_nw w = true) (hM : zk_me Ts zt_Y cl Zs l d' y cy maxL ret zo_i (zm_fv zt_Y ci n F)) (hl : Cond.methodLink own i y ∈ Ts) (hi : Cond.instanceMethod y ∈ Ts) (hs : Cond.selects y.cls y y ∈ Ts) (hin : Cond.initialized y.cls ∈ Ts) (hc : Cond.code y cy maxL ret ∈ Ts) (hC : (cl[ci]?).map (fun q => q.1) = some y.cls) (hn : zn_ok y n) (hR : d'.1 + 1 ≤ R.frames ∧ 8 + (maxL + 11) + d'.2 ≤ R.locals)
    (S : CallFix p m c cc nL s args Ts own) (hG : zg_ok zt_Y cl tys ad cA A) (hK : va_K D cl tys s) (hcs : zk_cs zt_Y Zs ad A s s.heap) (htb : zk_tb Ts s) (hcl : cells ≤ R.cells ∧ slots ≤ R.slots) :
    zi_ok p l e R s m args below meth c cells slots Q cc nL D cl A ad cA (zt_Yl L xs) (2 * i + 1) (some (n + 1, .inl (zm_nx (zm_fv zt_Y ci n F)))) := by
  intro ix pc ls st M H locs ins hins hd hls hst hP T t K hk kk
  unfold zm_iv at hk
  dsimp only at hk
  split at hk
  · next hcc =>
    rw [Bool.and_eq_true] at hcc
    have h1 := Nat.le_of_ble_eq_true hcc.1
    have h2 := Nat.le_of_ble_eq_true hcc.2
    obtain ⟨q, hq, hk⟩ := Option.bind_eq_some_iff.mp hk
    obtain ⟨e1, e2⟩ := zj_split h1
    unfold zm_nx at hq
    split at hq
    · next h63 =>
      rw [List.all_eq_true] at h63
      have hv : ∀ v ∈ (st.take (n + 1)).reverse, zv_ok zt_Y v := by
        intro v hv
        have hv1 := hst v (List.mem_of_mem_take (List.mem_reverse.mp hv))
        have hv2 := h63 v hv
        cases v with
        | inl x => trivial
        | inr r =>
          have hne : r.1 ≠ 63 := by
            intro e
            dsimp only at hv2
            rw [e] at hv2
            cases hv2
          exact (yv_ok hne).mp hv1
      generalize hgen : (st.take (n + 1)).reverse = av at hq hv e1 e2
      have hrs : (st.drop (n + 1)).length ≤ 8 := by
        rw [List.length_drop]
        omega
      have hkk : ∀ (H' : Heap) (locs' : List Loc), zs_at D cl zt_Y ad cA A s.heap q.2 H' locs' → W p l e R s m args below meth c H' locs' cells slots Q (F0 m (pc + 3) ls ((.inl q.1 :: st.drop (n + 1)).map (zc_v ad))) := fun H' locs' hP' => kk _ _ H' locs' hk (fun v hv => by
        rcases List.mem_cons.mp hv with rfl | hv
        · exact trivial
        · exact hst v (List.mem_of_mem_drop hv)) (yv_at.mpr hP')
      generalize st.drop (n + 1) = rs at e1 hrs hkk
      rw [← e1]
      have hP := yv_at.mp hP
      obtain ⟨r, as, rfl, hasn, hk0, hkc, hf'⟩ := zm_fv_spec hq
      have hr : zy_ok zt_Y r := hv (.inr r) List.mem_cons_self
      have hcb : CallB R s args own i y cy maxL ret [Cond.code y cy maxL ret] (zk_rm d') 0 0 n := callB_of n S.2.2.2.2 (zk_good hTs hc) rfl rfl rfl (S.2.2.2.2 _ hin) (S.2.2.2.2 _ hl) hn hR
      have hM' := hM D tys ad cA A hG (.inr r :: as) M q hv hq
      rcases hins with ⟨hix, rfl⟩ | ⟨hix, rfl⟩
      · obtain rfl : ix = i := by omega
        have hst : ((.inr r :: as).reverse ++ rs).map (zc_v ad) = (as.map (zc_v ad)).reverse ++ .ref (ad r) :: rs.map (zc_v ad) := by simp [zc_v]
        rw [hst]
        refine yv_call (va_runV (As := as.map (zc_v ad)) (b := ad r) (rest := rs.map (zc_v ad)) (C := y.cls) S hM' ⟨hcb, S.2.2.2.2 _ hi, S.2.2.2.2 _ hs⟩ ⟨zk_blind hTs _, zk_rec hG hK hP hr hk0 hkc hC, fun U hU hW => ⟨rfl, zk_pre hTs hK hcs htb hP hU hW⟩⟩ rfl (by rw [List.length_map]; exact hasn) hls rfl (lv_room (by rw [zk_sum]; exact hrs)) hd hcl) hP.2 (fun H1 locs1 hvv hP1 => ?_)
        exact hkk H1 locs1 hP1
      · omega
    · cases hq
  · cases hk
end YV
