theorem sm_obj {P : sp_P} {M : zm_M} {p o c : Nat} {F : sp_F} (hwP : wf_P P) (hP : rm_P P M) (h : rm_F M F) (hw : wf_F F) (hp : p < pg_n P) (ho : pg_op P p = o) (h37 : 37 ≤ o) (hc : c < 8) : sm_R M ((fn_mo_isPointer [.inl (vz F.2.1[0]?)] M).bind fun q15 => if q15.1 = nI 0 then some (nI 0, q15.2) else (fn_mo_is [.inr (35, 0), .inl (vz F.2.1[0]?), .inl (nI (16 * c + 7))] q15.2).bind fun q16 => if q16.1 = nI 0 then some (nI 0, q16.2) else if nI o = nI 37 then (fn_mo_push [.inr (35, 0), .inl (nI 1)] (zm_up q16.2 35 0 20 ((q16.2 35 0 20) - nI 1))).bind fun q19 => if q19.1 = nI 0 ∨ q19.1 = nI 1 then some (q19.1, q19.2) else none else if nI o = nI 38 then (fn_mo_push [.inr (35, 0), .inl ((nI 16 * (q16.2 41 0 p)) + nI 7)] (zm_up q16.2 35 0 20 ((q16.2 35 0 20) - nI 1))).bind fun q18 => if q18.1 = nI 0 ∨ q18.1 = nI 1 then some (q18.1, q18.2) else none else (fn_mo_push [.inr (35, 0), .inl (nI (16 * pg_a P p + 7))] (zm_up q16.2 35 0 20 ((q16.2 35 0 20) - nI 1))).bind fun q17 => if q17.1 = nI 0 ∨ q17.1 = nI 1 then some (q17.1, q17.2) else none) (match F.2.1 with
    | x :: T => if sp_op x && sp_is P x (16 * c + 7) then (sp_psh (if o = 37 then 1 else 16 * (if o = 38 then pg_b P p else pg_a P p) + 7) T).map fun T => (F.1, T, F.2.2) else none
    | _ => none) := by
  obtain ⟨L, T, b⟩ := F
  have hI := wf_at hwP hp
  have h40 : o < 40 := by rw [← ho]; exact hI.1
  have ha8 : pg_a P p < 8 := hI.2.2.2.1 (by unfold pg_op at ho; omega)
  rw [so_pointer_v hw.2]
  simp only [Option.bind_some, bI_0]
  cases T with
  | nil => exact sm_R.no zo_M.rf
  | cons x T =>
    have hx := hw.2 x List.mem_cons_self
    have hxl := sp_wt_lt hx
    simp only [List.getElem?_cons_zero, Option.any_some]
    rcases Bool.eq_false_or_eq_true (sp_op x) with hop | hop
    · rw [if_neg (by rw [hop]; decide), show vz (some x) = nI x by unfold vz; rfl, so_is hwP.1 hP.1 hx (wt_7 hc)]
      simp only [Option.bind_some, bI_0]
      rcases Bool.eq_false_or_eq_true (sp_is P x (16 * c + 7)) with hi | hi
      · rw [if_neg (by rw [hi]; decide), hop, hi]
        simp only [Bool.and_self, if_true]
        have hdr := rm_drop h
        by_cases e7 : o = 37
        · rw [if_pos (by rw [e7]), if_pos e7]
          exact sm_R.b (sm_psh zo_M.d hdr (wf_tail hw) (wt_k (by decide)))
        · rw [if_neg (ni_ne e7 (by omega) (by omega)), if_neg e7]
          by_cases e8 : o = 38
          · rw [if_pos (by rw [e8]), if_pos e8, (hP.i p hp).2.2, pk_mul, nI_add]
            exact sm_R.b (sm_psh zo_M.d hdr (wf_tail hw) (wt_7 (hI.2.2.2.2 (by unfold pg_op at ho; omega))))
          · rw [if_neg (ni_ne e8 (by omega) (by omega)), if_neg e8]
            exact sm_R.b (sm_psh zo_M.d hdr (wf_tail hw) (wt_7 ha8))
      · rw [if_pos hi, hi, Bool.and_false]
        exact sm_R.no zo_M.rf
    · rw [if_pos hop, hop, Bool.false_and]
      exact sm_R.no zo_M.rf
theorem sm_jump {P : sp_P} {M : zm_M} {p : Nat} {F : sp_F} (hwP : wf_P P) (hP : rm_P P M) (h : rm_F M F) (hw : wf_F F) (hp : p < pg_n P) (h31 : 31 ≤ pg_op P p) : sm_R M (fn_mo_leave [.inr (35, 0), .inl (nI p)] M) (sp_stp P p F) := by
  have hI := wf_at hwP hp
  have h50 := hwP.n
  have h40 : pg_op P p < 40 := hI.1
  have hof := sp_off_le P p
  have t1 : fn_mo_top [.inr (35, 0), .inl (nI 1)] M = some (vz F.2.1[0]?, M) := sm_top h (a := 0) (by decide)
  have t2 : fn_mo_top [.inr (35, 0), .inl (nI 2)] M = some (vz F.2.1[1]?, M) := sm_top h (a := 1) (by decide)
  rw [eq_mo_leave]
  simp only [nz_0, nz_1, nz_2, nz_3, nz_4, nz_5, nz_6, nz_7, nz_8, nz_9, nz_10, nz_11, nz_12, nz_13, nz_14, nz_15, nz_16, nz_17, nz_18, nz_19, nz_20, nz_21, nz_22, nz_23, nz_24, nz_25, nz_26, nz_27, nz_28, nz_29, nz_30, nz_31, nz_32, nz_33, nz_34, nz_35, nz_36, nz_37, nz_38, nz_39, nz_40, nz_41, nz_42, nz_43, nz_44, nz_45, nz_46, nz_47, nz_48, nz_49, nz_50, nz_51, nz_63, nz_64, nz_66, nz_127, nz_128, nz_246, nz_247, nz_248, nz_250, nz_251, nz_252, nz_254, nz_255, nz_256, nz_400, nz_2500]
  rw [nI_clamp (by omega)]
  simp only [if_neg (ni_in (show p < 50 by omega) (show p < 2 ^ 31 by omega))]
  rw [t1]
  simp only [Option.bind_some]
  rw [(hP.i p hp).1, (hP.i p hp).2.1, if_pos (ni_lt (show 20 < pg_op P p by omega) (by omega) (by omega)), if_pos (ni_lt (show 30 < pg_op P p by omega) (by omega) (by omega))]
  unfold sp_stp
  dsimp only
  rw [if_neg (show ¬ pg_op P p ≤ 20 by omega), if_neg (show ¬ pg_op P p ≤ 25 by omega), if_neg (show ¬ pg_op P p ≤ 30 by omega)]
  by_cases e1 : pg_op P p = 31
  · rw [if_pos (show nI (pg_op P p) = nI 31 by rw [e1]), if_pos e1]
    exact sm_R.yes zo_M.rf h hw
  rw [if_neg (ni_ne e1 (by omega) (by omega)), if_neg e1]
  by_cases e2 : pg_op P p = 32
  · rw [if_pos (show nI (pg_op P p) = nI 32 by rw [e2]), if_pos e2]
    obtain ⟨L, T, b⟩ := F
    cases T with
    | nil =>
      rw [if_neg (show ¬ vz ([] : List Nat)[0]? = nI 1 from vz_ne (by omega))]
      exact sm_R.b sm_takes0
    | cons x T =>
      have hxl := sp_wt_lt (hw.2 x List.mem_cons_self)
      show sm_R M (if nI x = nI 1 then _ else _) (if x = 1 then some (L, T, b) else none)
      by_cases e : x = 1
      · rw [if_pos (by rw [e]), if_pos e]
        exact sm_R.b (sm_takes1 (g := true) h hw)
      · rw [if_neg (ni_ne e (by omega) (by omega)), if_neg e]
        exact sm_R.b sm_takes0
  rw [if_neg (ni_ne e2 (by omega) (by omega)), if_neg e2]
  by_cases e3 : pg_op P p = 33
  · rw [if_pos (show nI (pg_op P p) = nI 33 by rw [e3]), if_pos e3, so_pointer_v hw.2]
    simp only [Option.bind_some]
    obtain ⟨L, T, b⟩ := F
    cases T with
    | nil => exact sm_R.b sm_takes0
    | cons x T => exact sm_R.b (sm_takes1 h hw)
  rw [if_neg (ni_ne e3 (by omega) (by omega)), if_neg e3]
  by_cases e4 : pg_op P p = 34
  · rw [if_pos (show nI (pg_op P p) = nI 34 by rw [e4]), if_pos e4, so_pointer_v hw.2]
    simp only [Option.bind_some, bI_0]
    rw [t2]
    simp only [Option.bind_some]
    rw [so_pointer_v hw.2]
    simp only [Option.bind_some, bI_0]
    obtain ⟨L, T, b⟩ := F
    cases T with
    | nil => exact sm_R.b (sm_takes0 (x := nI 2))
    | cons x T =>
      simp only [List.getElem?_cons_zero, Option.any_some]
      rcases Bool.eq_false_or_eq_true (sp_op x) with hx | hx
      · rw [if_neg (by rw [hx]; decide)]
        cases T with
        | nil => exact sm_R.b (sm_takes0 (x := nI 2))
        | cons y T =>
          show sm_R M (if sp_op y = false then _ else _) (if sp_op x && sp_op y then some (L, T, b) else none)
          rcases Bool.eq_false_or_eq_true (sp_op y) with hy | hy
          · rw [if_neg (by rw [hy]; decide), hx, hy]
            exact sm_R.b (sm_takes2 (g := true) h hw)
          · rw [if_pos hy, hx, hy]
            exact sm_R.b (sm_takes0 (x := nI 2))
      · rw [if_pos hx]
        cases T with
        | nil => exact sm_R.b (sm_takes0 (x := nI 2))
        | cons y T =>
          show sm_R M _ (if sp_op x && sp_op y then some (L, T, b) else none)
          rw [hx]
          exact sm_R.b (sm_takes0 (x := nI 2))
  rw [if_neg (ni_ne e4 (by omega) (by omega)), if_neg e4]
  by_cases e5 : pg_op P p = 35
  · rw [if_pos (show nI (pg_op P p) = nI 35 by rw [e5]), if_pos e5, so_offset hwP hP (by omega)]
    simp only [Option.bind_some, pk_mul, nI_add]
    exact sm_R.b (sm_psh zo_M.rf h hw (wt_8 (by omega)))
  rw [if_neg (ni_ne e5 (by omega) (by omega)), if_neg e5]
  have ha8 : pg_a P p < 8 := hI.2.2.2.1 (by show 35 ≤ pg_op P p; omega)
  by_cases e6 : pg_op P p = 36
  · rw [if_pos (show nI (pg_op P p) = nI 36 by rw [e6]), if_pos e6]
    exact sm_R.b (sm_init hwP hP h hw ha8)
  rw [if_neg (ni_ne e6 (by omega) (by omega)), if_neg e6]
  simp only [pk_mul, nI_add]
  by_cases e9 : pg_op P p = 39
  · rw [if_pos (show nI (pg_op P p) = nI 39 by rw [e9])]
    rw [if_pos (c := pg_op P p = 39) e9]
    have := sm_obj (c := 0) hwP hP h hw hp rfl (by omega) (by decide)
    exact this
  · rw [if_neg (ni_ne e9 (by omega) (by omega))]
    rw [if_neg (c := pg_op P p = 39) e9]
    have := sm_obj hwP hP h hw hp rfl (by omega) ha8
    exact this
/-- A STEP OF THE REFERENCE -/
theorem sm_leave {P : sp_P} {M : zm_M} {p : Nat} {F : sp_F} (hwP : wf_P P) (hP : rm_P P M) (h : rm_F M F) (hw : wf_F F) (hp : p < pg_n P) : ∃ M', fn_mo_leave [.inr (35, 0), .inl (nI p)] M = some (bI (sp_stp P p F).isSome, M') ∧ zo_M M M' ∧ (pg_op P p ≠ 20 → ∀ F', sp_stp P p F = some F' → rm_F M' F' ∧ wf_F F') := by
  by_cases h31 : 31 ≤ pg_op P p
  · obtain ⟨M', h1, h2, h3⟩ := sm_jump hwP hP h hw hp h31
    exact ⟨M', h1, h2, fun _ => h3⟩
  have hI := wf_at hwP hp
  have h50 := hwP.n
  have t1 : fn_mo_top [.inr (35, 0), .inl (nI 1)] M = some (vz F.2.1[0]?, M) := sm_top h (a := 0) (by decide)
  rw [eq_mo_leave]
  simp only [nz_0, nz_1, nz_2, nz_3, nz_4, nz_5, nz_6, nz_7, nz_8, nz_9, nz_10, nz_11, nz_12, nz_13, nz_14, nz_15, nz_16, nz_17, nz_18, nz_19, nz_20, nz_21, nz_22, nz_23, nz_24, nz_25, nz_26, nz_27, nz_28, nz_29, nz_30, nz_31, nz_32, nz_33, nz_34, nz_35, nz_36, nz_37, nz_38, nz_39, nz_40, nz_41, nz_42, nz_43, nz_44, nz_45, nz_46, nz_47, nz_48, nz_49, nz_50, nz_51, nz_63, nz_64, nz_66, nz_127, nz_128, nz_246, nz_247, nz_248, nz_250, nz_251, nz_252, nz_254, nz_255, nz_256, nz_400, nz_2500]
  rw [nI_clamp (by omega)]
  simp only [if_neg (ni_in (show p < 50 by omega) (show p < 2 ^ 31 by omega))]
  rw [t1]
  simp only [Option.bind_some]
  rw [(hP.i p hp).1, (hP.i p hp).2.1]
  by_cases e20 : pg_op P p ≤ 20
  · rw [if_neg (ni_nl e20 (by omega) (by omega))]
    have hsp : sp_stp P p F = (sp_stk P (pg_op P p) F).map fun T => (F.1, T, F.2.2) := by
      unfold sp_stp
      dsimp only
      rw [if_pos e20]
    rw [hsp]
    by_cases e : pg_op P p = 20
    · rw [e]
      obtain ⟨M', h1, h2⟩ := sm_throw hwP hP h hw
      rw [h1]
      simp only [Option.bind_some]
      rw [if_pos (bI_01 _), Option.isSome_map]
      exact ⟨M', rfl, h2, fun q => absurd rfl q⟩
    · obtain ⟨M', h1, h2, h3⟩ := sm_R.b (sm_simple hwP hP h hw (show pg_op P p ≤ 19 by omega))
      exact ⟨M', h1, h2, fun _ => h3⟩
  · have hloc := hI.2.1 (by show 21 ≤ pg_op P p; omega) (by show pg_op P p ≤ 30; omega)
    have ha : pg_a P p < 10 := hloc.1
    rw [if_pos (ni_lt (by omega) (by omega) (by omega)), if_neg (ni_nl (by omega) (by omega) (by omega))]
    by_cases e25 : pg_op P p ≤ 25
    · have hsp : sp_stp P p F = (if sp_ok (F.1.getD (pg_a P p) 0) (pg_op P p - 21) then (sp_psh (F.1.getD (pg_a P p) 0) F.2.1).map fun T => (F.1, T, F.2.2) else none) := by
        unfold sp_stp
        dsimp only
        rw [if_neg e20, if_pos e25]
      obtain ⟨M', h1, h2, h3⟩ := sm_R.b (sm_load (P := P) h hw (show 21 ≤ pg_op P p by omega) e25 ha)
      rw [hsp]
      exact ⟨M', h1, h2, fun _ => h3⟩
    · have hsp : sp_stp P p F = (match (generalizing := false) F.2.1 with
        | x :: T => if sp_ok x (pg_op P p - 26) then some (sp_sto F.1 (pg_a P p) x, T, F.2.2) else none
        | _ => none) := by
        unfold sp_stp
        dsimp only
        rw [if_neg e20, if_neg e25, if_pos (show pg_op P p ≤ 30 by omega)]
        cases F.2.1 <;> rfl
      obtain ⟨M', h1, h2, h3⟩ := sm_R.b (sm_store h hw (show 26 ≤ pg_op P p by omega) (show pg_op P p ≤ 30 by omega) ha (fun q => hloc.2 (by show pg_op P p = 22 ∨ pg_op P p = 24 ∨ pg_op P p = 27 ∨ pg_op P p = 29; omega)))
      rw [hsp]
      exact ⟨M', h1, h2, fun _ => h3⟩
