/-! WHAT THE START GIVES, and a 'new' in the law's frame -/
theorem yu_tb {args : Array Value} {s : State} (hts : ∀ w ∈ lw_tbl, w.before args s = true) : zk_tb zt_Ts s := by
  intro w hw
  have h1 := zt_ok w hw
  have h2 := hts w (List.mem_filter.mp hw).1
  have ho : w.onTables = true := by
    unfold zk_nw at h1
    split at h1
    · rfl
    · rfl
    · exact (Bool.and_eq_true _ _ ▸ h1 : _ ∧ _).1
  exact va_Nw.of ho h2
theorem yu_c1 {args : Array Value} {s : State} (hz : ∀ w ∈ zt_Ts, w.before args s = true) {c : Nat} {C : String} {T : u_T} {N n : Nat} (h1 : ∀ w ∈ u_ws C T N, w ∈ zt_Ts) (h2 : Cond.instantiable C n ∈ zt_Ts) (h3 : zt_cl[c]? = some (C, T, N)) : ∃ d : ClassId × (Nat → Nat), ∀ q, zt_cl[c]? = some q → u_Kn s q.1 q.2.1 q.2.2 d.1 d.2 := by
  obtain ⟨cC, iS, h⟩ := u_known hz h1 (hz _ h2)
  exact ⟨(cC, iS), fun q hq => by rw [h3] at hq; cases hq; exact h⟩
theorem yu_D {args : Array Value} {s : State} (hts : ∀ w ∈ lw_tbl, w.before args s = true) : ∃ D : va_G, ∀ c q, zt_cl[c]? = some q → u_Kn s q.1 q.2.1 q.2.2 (D.1 c) (D.2 c) := by
  have hz : ∀ w ∈ zt_Ts, w.before args s = true := fun w hw => hts w (List.mem_filter.mp hw).1
  have key : ∀ c : Nat, ∃ d : ClassId × (Nat → Nat), ∀ q, zt_cl[c]? = some q → u_Kn s q.1 q.2.1 q.2.2 d.1 d.2 := by
    intro c
    match c with
    | 0 => exact yu_c1 hz cs_fa wl_n_fa rfl
    | 1 => exact yu_c1 hz cs_pr wl_n_pr rfl
    | 2 => exact yu_c1 hz cs_by wl_n_by rfl
    | 3 => exact yu_c1 hz cs_ma wl_n_ma rfl
    | 4 => exact yu_c1 hz cs_fr wl_n_fr rfl
    | 5 => exact yu_c1 hz cs_fl wl_n_fl rfl
    | 6 => exact yu_c1 hz cs_tl wl_n_tl rfl
    | 7 => exact yu_c1 hz cs_wr wl_n_wr rfl
    | 8 => exact yu_c1 hz cs_re wl_n_re rfl
    | 9 => exact yu_c1 hz cs_ck wl_n_ck rfl
    | 10 => exact yu_c1 hz cs_mf wl_n_mf rfl
    | 11 => exact yu_c1 hz cs_mo wl_n_mo rfl
    | n + 12 => exact ⟨((0 : Nat), fun _ => 0), fun q hq => by simp [zt_cl] at hq⟩
  obtain ⟨f, hf⟩ := Classical.axiomOfChoice key
  exact ⟨(fun c => (f c).1, fun c => (f c).2), fun c q hq => hf c q hq⟩
theorem yu_K {args : Array Value} {s : State} (hts : ∀ w ∈ lw_tbl, w.before args s = true) : ∃ (D : va_G) (tc : Nat → ClassId), va_K D zt_cl (yb_t tc "MapForge$Frame") s ∧ va_AO "MapForge$Frame" s := by
  obtain ⟨D, hD⟩ := yu_D hts
  have hao : va_AO "MapForge$Frame" s := va_AO.of (hts _ wl_ao)
  obtain ⟨c0, k0, p0, a1, a2, a3⟩ := Cond.arrayClass_spec (hts _ wl_ai)
  obtain ⟨c1, k1, p1, b1, b2, b3⟩ := Cond.arrayClass_spec (hts _ wl_az)
  obtain ⟨comp, c2, k2, e1, e2, e3, e4, e5⟩ := Cond.arrayOver_spec hao
  refine ⟨D, fun k => match k with
    | 0 => c0
    | 1 => c1
    | _ => c2, ⟨hD, fun k q hq => ?_⟩, hao⟩
  match k, hq with
  | 0, hq =>
    cases hq
    exact ⟨fun n z => ⟨fun k h => (by cases h), k0, a2, p0, a3⟩, a1⟩
  | 1, hq =>
    cases hq
    exact ⟨fun n z => ⟨fun k h => (by cases h), k1, b2, p1, b3⟩, b1⟩
  | 2, hq =>
    cases hq
    exact ⟨fun n z => ⟨fun k h => (by cases h), k2, e3, comp, e4⟩, k2, comp, e3, e4, e1, e5⟩
  | k + 3, hq => simp [yb_t] at hq
section YX
variable {p : Program} {l : Launch} {e : Env} {R : Room} {s : State} {m : MethodId} {args : Array Value} {below : List Frame} {meth : Method} {c : Code} {H : Heap} {locs : List Loc} {Q : State → Prop}
variable {cc : ByteArray} {pc cells slots i ci : Nat} {ls : Array Slot} {rest : List Value} {D : va_G} {cl : List vw_C} {tc : Nat → ClassId} {A : Nat → Prop} {own E : String} {Ts : List Cond} {df : Nat → List (Option zm_V)} {ad0 ad : List Nat} {ws : yb_W}
theorem yx_new (hx : p.tables.exec = Jvm.exec) (hb : c.code = cc) (hown : s.vm.findClass own = some m.cls) (hts : ∀ w ∈ Ts, w.before args s = true) (hK : va_K D cl (yb_t tc E) s) (hA : ∀ q, s.heap.size ≤ q → A q) (hN : yb_n1 df cl Ts own i ci) (hP : yb_s D cl tc A s.heap ad0 ad ws H locs) (hc : cells + 1 ≤ R.cells) (hs : slots + (df ci).length ≤ R.slots) (hd : decode cc pc = .ok (.new i, 3))
    (kk : ∀ q H1, yb_s D cl tc A s.heap ad0 (ad ++ [q]) (ws ++ [.inl (ci, df ci)]) H1 locs → W p l e R s m args below meth c H1 locs (cells + 1) (slots + (df ci).length) Q (F0 m (pc + 3) ls (.ref q :: rest))) : W p l e R s m args below meth c H locs cells slots Q (F0 m pc ls rest) := by
  obtain ⟨hpre, hlen, hwf, hPP, hDD, hSS⟩ := hP
  obtain ⟨C, T', N, q1, q2, q3, q4, q5, ty0, q6, q7, q8⟩ := hN
  have hlenN : (df ci).length = N := by rw [q8, List.length_map, List.length_range]
  rw [hlenN] at hs kk
  refine va_new (ci := ci) (fs := (df ci).map (yb_f ad)) (C := C) (T := T') (N := N) hx hb hts q2 ty0 q6 hown (hts _ q3) (hts _ q4) (hts _ q5) hK hPP hDD hSS hA q1 ?_ hc hs hd ?_
  · intro j hj
    rw [q8, List.map_map]
    show _ = List.getD _ j _
    rw [List.getD_eq_getElem?_getD, List.getElem?_map, List.getElem?_range hj]
    exact (yb_d_ok (q7 j hj) ad).symm
  · intro q H1 hP1 hD1 hS1
    have hok : ∀ n, yb_ok n (.inl (ci, df ci)) := fun n => by rw [q8]; exact yb_df_ok
    have hee : yb_e tc (ad ++ [q]) (.inl (ci, df ci)) = .inr (ci, (df ci).map (yb_f ad)) := (yb_e_app (c := .inl (ci, df ci)) (hok _)).trans rfl
    have hw' : yb_w tc (ad ++ [q]) (ws ++ [.inl (ci, df ci)]) = yb_w tc ad ws ++ [(q, .inr (ci, (df ci).map (yb_f ad)))] := by
      rw [yb_w_push hlen hwf, hee]
    exact kk q H1 ⟨by obtain ⟨L, hL⟩ := hpre; exact ⟨L ++ [q], by rw [hL, List.append_assoc]⟩, by rw [List.length_append, List.length_append, hlen]; rfl, hwf.push (hok _), by rw [hw']; exact hP1, by rw [hw']; exact hD1, hS1⟩
end YX
/-! the constants of the layout -/
theorem yu_k4 {s : Nat} (h : zy_k zt_Y s = 4) : s = 62 := by
  rcases Nat.lt_trichotomy s 62 with q | q | q
  · have := (yl_at q).1
    omega
  · exact q
  · have : zy_k zt_Y s = 9 := zn_ge (L := ly_k) (d := 9) (show ly_k.length ≤ s by
      have : ly_k.length = 63 := by decide
      omega)
    omega
theorem yu_T {L : Nat} {xs : Nat → Int32} {kd b : Nat} {ad : List Nat} {A : Nat → Prop} {s : State} (hT : va_T .int kd 5 (fun j => .int (zn_at ly_t j 0)) A s s.heap) (hX : va_X b L xs s s.heap) (hb : ¬ A b) : ∀ r : Nat × Nat, zy_k (zt_Yl L xs) r.1 = 4 → va_T .int (ya_a kd b ad r) (zy_n (zt_Yl L xs) r.1) (fun j => .int (zy_t (zt_Yl L xs) r.1 j)) A s s.heap := by
  intro r hr
  obtain ⟨u, i⟩ := r
  by_cases e : u = 63
  · subst e
    obtain ⟨scr, h1, h2, h3, h4, h5⟩ := hX
    exact ⟨scr, h1, h2, h3, by rw [h4]; exact Nat.le_refl _, by rw [h4]; rfl, h5, hb⟩
  · have hr : zy_k zt_Y u = 4 := by rw [← yv_k (L := L) (xs := xs) e]; exact hr
    have := yu_k4 hr
    subst this
    exact hT
theorem yu_cs {kd b : Nat} {ad : List Nat} {A : Nat → Prop} {s : State} (hT : va_T .int kd 5 (fun j => .int (zn_at ly_t j 0)) A s s.heap) (hZ : va_Z "MapForge" "KINDS" "[I" (.ref kd) A s s.heap) : zk_cs zt_Y zt_Zs (ya_a kd b ad) A s s.heap := by
  refine ⟨fun r hr => ?_, fun z hz => ?_⟩
  · obtain ⟨u, i⟩ := r
    have := yu_k4 hr
    subst this
    exact hT
  · rw [show zt_Zs = [("MapForge", "KINDS", "[I", (62, 0))] from rfl, List.mem_singleton] at hz
    subst hz
    exact hZ
