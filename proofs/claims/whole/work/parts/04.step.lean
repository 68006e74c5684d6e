section ZT
variable {p : Program} {l : Launch} {e : Env} {R : Room} {s : State} {m : MethodId} {args : Array Value} {below : List Frame} {meth : Method} {c : Code} {H : Heap} {locs : List Loc} {cells slots : Nat} {Q : State → Prop}
variable {cc : ByteArray} {pc nL : Nat} {ls : Array Slot} {rest : List Value} {D : va_G} {cl : List vw_C} {tys : List (ClassId × FieldType)} {A : Nat → Prop} {ad : Nat × Nat → Nat} {cA : Nat → ClassId} {Y : zm_Y} {own : String} {Ts : List Cond} {M : zm_M}
theorem zs_dom {Y : zm_Y} {r : Nat × Nat} {n : Nat} (h : zy_ok Y r) (hk : zy_k Y r.1 = n) (hn : n ≠ 4) : r.1 < zy_s Y ∧ r.2 < zy_m Y r.1 := by
  rcases h with h | h
  · exact absurd (hk.symm.trans h) hn
  · exact h
theorem zs_arr {Y : zm_Y} {r : Nat × Nat} {M : zm_M} (hk : zy_k Y r.1 = 1 ∨ zy_k Y r.1 = 2) : zc_e Y ad cA M r = .inl (cA r.1, zy_n Y r.1, .inl (M r.1 r.2)) := by
  unfold zc_e
  rcases hk with h | h <;> rw [h] <;> rfl
theorem zs_nin {i : Int32} {n : Nat} (h : ¬ (i < 0 ∨ n ≤ i.toNatClampNeg)) : vp_in i n := h
theorem zs_il (hx : p.tables.exec = Jvm.exec) (hb : c.code = cc) (hG : zg_ok Y cl tys ad cA A) (hK : va_K D cl tys s) {r : Nat × Nat} {i : Int32} (hr : zy_ok Y r) (hk : zy_k Y r.1 = 1) (hin : ¬ (i < 0 ∨ zy_n Y r.1 ≤ i.toNatClampNeg)) (hP : zs_at D cl Y ad cA A s.heap M H locs) (hd : decode cc pc = .ok (.iaload, 1))
    (kk : W p l e R s m args below meth c H locs cells slots Q (F0 m (pc + 1) ls (.int (M r.1 r.2 i.toNatClampNeg) :: rest))) : W p l e R s m args below meth c H locs cells slots Q (F0 m pc ls (.int i :: .ref (ad r) :: rest)) := by
  have hdm := zs_dom hr hk (by decide)
  obtain ⟨q0, hq0⟩ := zc_at (ad := ad) (cA := cA) (M := M) (zy_d_mem.mpr hdm)
  rw [zs_arr (Or.inl hk)] at hq0
  obtain ⟨t0, ht⟩ := hG.2.2.1 r.1 hdm.1 hk
  exact va_iald hx hb hK hP.1 q0 t0 hq0 ht hin hd kk
theorem zs_bl (hx : p.tables.exec = Jvm.exec) (hb : c.code = cc) (hG : zg_ok Y cl tys ad cA A) (hK : va_K D cl tys s) {r : Nat × Nat} {i : Int32} (hr : zy_ok Y r) (hk : zy_k Y r.1 = 2) (hin : ¬ (i < 0 ∨ zy_n Y r.1 ≤ i.toNatClampNeg)) (hP : zs_at D cl Y ad cA A s.heap M H locs) (hd : decode cc pc = .ok (.baload, 1))
    (kk : W p l e R s m args below meth c H locs cells slots Q (F0 m (pc + 1) ls (.int (M r.1 r.2 i.toNatClampNeg) :: rest))) : W p l e R s m args below meth c H locs cells slots Q (F0 m pc ls (.int i :: .ref (ad r) :: rest)) := by
  have hdm := zs_dom hr hk (by decide)
  obtain ⟨q0, hq0⟩ := zc_at (ad := ad) (cA := cA) (M := M) (zy_d_mem.mpr hdm)
  rw [zs_arr (Or.inr hk)] at hq0
  obtain ⟨t0, ht⟩ := hG.2.2.2.1 r.1 hdm.1 hk
  exact va_zald hx hb hK hP.1 q0 t0 hq0 ht hin hd kk
theorem zs_al (hx : p.tables.exec = Jvm.exec) (hb : c.code = cc) (hG : zg_ok Y cl tys ad cA A) (hK : va_K D cl tys s) {r : Nat × Nat} {i : Int32} (hr : zy_ok Y r) (hk : zy_k Y r.1 = 3) (hin : ¬ (i < 0 ∨ zy_n Y r.1 ≤ i.toNatClampNeg)) (hP : zs_at D cl Y ad cA A s.heap M H locs) (hd : decode cc pc = .ok (.aaload, 1))
    (kk : W p l e R s m args below meth c H locs cells slots Q (F0 m (pc + 1) ls (.ref (ad (zy_e Y r.1 r.2 i.toNatClampNeg)) :: rest))) : W p l e R s m args below meth c H locs cells slots Q (F0 m pc ls (.int i :: .ref (ad r) :: rest)) := by
  have hdm := zs_dom hr hk (by decide)
  obtain ⟨q0, hq0⟩ := zc_at (ad := ad) (cA := cA) (M := M) (zy_d_mem.mpr hdm)
  have he : zc_e Y ad cA M r = .inl (cA r.1, zy_n Y r.1, .inr (.inr (.inr (.inr fun j => some (ad (zy_e Y r.1 r.2 j)))))) := by
    unfold zc_e
    rw [hk]
    rfl
  rw [he] at hq0
  obtain ⟨t0, C, ht⟩ := hG.2.2.2.2.1 r.1 hdm.1 hk
  exact va_aldq hx hb hK hP.1 q0 t0 hq0 ht hin hd kk
theorem zs_up (M : zm_M) (r : Nat × Nat) (k : Nat) (x : Int32) : zm_up M r.1 r.2 k x r.1 r.2 = upd (M r.1 r.2) k x := by
  funext j
  unfold zm_up upd
  by_cases h : j = k <;> simp [h]
theorem zs_is (hx : p.tables.exec = Jvm.exec) (hb : c.code = cc) (hG : zg_ok Y cl tys ad cA A) (hK : va_K D cl tys s) {r : Nat × Nat} {i x : Int32} (hr : zy_ok Y r) (hk : zy_k Y r.1 = 1) (hin : ¬ (i < 0 ∨ zy_n Y r.1 ≤ i.toNatClampNeg)) (hP : zs_at D cl Y ad cA A s.heap M H locs) (hd : decode cc pc = .ok (.iastore, 1))
    (kk : ∀ H' locs', zs_at D cl Y ad cA A s.heap (zm_up M r.1 r.2 i.toNatClampNeg x) H' locs' → W p l e R s m args below meth c H' locs' cells slots Q (F0 m (pc + 1) ls rest)) : W p l e R s m args below meth c H locs cells slots Q (F0 m pc ls (.int x :: .int i :: .ref (ad r) :: rest)) := by
  have hdm := zs_dom hr hk (by decide)
  obtain ⟨q0, hq0⟩ := zc_at (ad := ad) (cA := cA) (M := M) (zy_d_mem.mpr hdm)
  have hq1 := hq0
  rw [zs_arr (Or.inl hk)] at hq1
  obtain ⟨t0, ht⟩ := hG.2.2.1 r.1 hdm.1 hk
  refine va_iast hx hb hK hP.1 (hG.1 M) hP.2 q0 t0 hq1 ht hin hd (fun H1 locs1 h1 h2 h3 => kk H1 locs1 ⟨?_, h3⟩)
  have hws := zc_set (M' := zm_up M r.1 r.2 i.toNatClampNeg x) (hG.1 M) hG.2.1 (zy_d_mem.mpr hdm) hq0 (fun y hy => zc_e_ne hy)
  rw [zs_arr (Or.inl hk), zs_up] at hws
  rw [← hws]
  exact h1
theorem zs_bs (hx : p.tables.exec = Jvm.exec) (hb : c.code = cc) (hG : zg_ok Y cl tys ad cA A) (hK : va_K D cl tys s) {r : Nat × Nat} {i x : Int32} (hr : zy_ok Y r) (hk : zy_k Y r.1 = 2) (hin : ¬ (i < 0 ∨ zy_n Y r.1 ≤ i.toNatClampNeg)) (hP : zs_at D cl Y ad cA A s.heap M H locs) (hd : decode cc pc = .ok (.bastore, 1))
    (kk : ∀ H' locs', zs_at D cl Y ad cA A s.heap (zm_up M r.1 r.2 i.toNatClampNeg (x &&& 1)) H' locs' → W p l e R s m args below meth c H' locs' cells slots Q (F0 m (pc + 1) ls rest)) : W p l e R s m args below meth c H locs cells slots Q (F0 m pc ls (.int x :: .int i :: .ref (ad r) :: rest)) := by
  have hdm := zs_dom hr hk (by decide)
  obtain ⟨q0, hq0⟩ := zc_at (ad := ad) (cA := cA) (M := M) (zy_d_mem.mpr hdm)
  have hq1 := hq0
  rw [zs_arr (Or.inr hk)] at hq1
  obtain ⟨t0, ht⟩ := hG.2.2.2.1 r.1 hdm.1 hk
  refine va_zast hx hb hK hP.1 (hG.1 M) hP.2 q0 t0 hq1 ht hin hd (fun H1 locs1 h1 h2 h3 => kk H1 locs1 ⟨?_, h3⟩)
  have hws := zc_set (M' := zm_up M r.1 r.2 i.toNatClampNeg (x &&& 1)) (hG.1 M) hG.2.1 (zy_d_mem.mpr hdm) hq0 (fun y hy => zc_e_ne hy)
  rw [zs_arr (Or.inr hk), zs_up] at hws
  rw [← hws]
  exact h1
theorem zs_ln (hx : p.tables.exec = Jvm.exec) (hb : c.code = cc) (hG : zg_ok Y cl tys ad cA A) (hK : va_K D cl tys s) {r : Nat × Nat} (hr : zy_ok Y r) (hk : zy_k Y r.1 ≠ 0) (hT : zy_k Y r.1 = 4 → va_T .int (ad r) (zy_n Y r.1) (fun j => .int (zy_t Y r.1 j)) A s s.heap) (hP : zs_at D cl Y ad cA A s.heap M H locs) (hd : decode cc pc = .ok (.arraylength, 1))
    (kk : W p l e R s m args below meth c H locs cells slots Q (F0 m (pc + 1) ls (.int (nI (zy_n Y r.1)) :: rest))) : W p l e R s m args below meth c H locs cells slots Q (F0 m pc ls (.ref (ad r) :: rest)) := by
  by_cases h4 : zy_k Y r.1 = 4
  · exact va_tlen hx hb (hT h4) hP.2 rfl hd kk
  · have hdm : r.1 < zy_s Y ∧ r.2 < zy_m Y r.1 := zs_dom hr rfl h4
    have hlt := hG.2.2.2.2.2.2.2.2.1 r.1 hdm.1
    obtain ⟨q0, hq0⟩ := zc_at (ad := ad) (cA := cA) (M := M) (zy_d_mem.mpr hdm)
    rcases (show zy_k Y r.1 = 1 ∨ zy_k Y r.1 = 2 ∨ zy_k Y r.1 = 3 by omega) with h | h | h
    · rw [zs_arr (Or.inl h)] at hq0
      obtain ⟨t0, ht⟩ := hG.2.2.1 r.1 hdm.1 h
      exact va_alen hx hb hK hP.1 q0 t0 hq0 ht rfl hd kk
    · rw [zs_arr (Or.inr h)] at hq0
      obtain ⟨t0, ht⟩ := hG.2.2.2.1 r.1 hdm.1 h
      exact va_alen hx hb hK hP.1 q0 t0 hq0 ht rfl hd kk
    · have he : zc_e Y ad cA M r = .inl (cA r.1, zy_n Y r.1, .inr (.inr (.inr (.inr fun j => some (ad (zy_e Y r.1 r.2 j)))))) := by
        unfold zc_e
        rw [h]
        rfl
      rw [he] at hq0
      obtain ⟨t0, C, ht⟩ := hG.2.2.2.2.1 r.1 hdm.1 h
      exact va_alen hx hb hK hP.1 q0 t0 hq0 ht rfl hd kk
end ZT
