/-- the first must be small -/
theorem om_small {M : zm_M} {L T : List Nat} {b : Bool} {k : Int32 → zm_M → Option (Int32 × zm_M)} {o : Option sp_F} (hw : wf_F (L, T, b)) (h0 : (T[0]?).any sp_sm = false → sm_R M (k (nI 0) M) o) (h1 : ∀ x T', T = x :: T' → sp_sm x = true → sm_R M (k (nI 1) M) o) : sm_R M ((fn_mo_isSmall [.inl (vz T[0]?)] M).bind fun q => k q.1 q.2) o := by
  rw [so_small_v hw.2, Option.bind_some]
  cases T with
  | nil => exact h0 rfl
  | cons x T =>
    simp only [List.getElem?_cons_zero, Option.any_some]
    rcases Bool.eq_false_or_eq_true (sp_sm x) with hs | hs
    · rw [hs]
      exact h1 x T rfl hs
    · rw [hs]
      exact h0 (by simpa using hs)
theorem sm_sum {M : zm_M} {t : Nat} {F : sp_F} (h : rm_F M F) (hw : wf_F F) (ht : t < 7) : sm_R M (fn_mo_sum [.inr (35, 0), .inl (nI t)] M) ((sp_sum t F.2.1).map fun T => (F.1, T, F.2.2)) := by
  obtain ⟨L, T, b⟩ := F
  have t1 : fn_mo_top [.inr (35, 0), .inl (nI 1)] M = some (vz T[0]?, M) := sm_top h (a := 0) (by decide)
  have t2 : fn_mo_top [.inr (35, 0), .inl (nI 2)] M = some (vz T[1]?, M) := sm_top h (a := 1) (by decide)
  rw [eq_mo_sum]
  simp only [nz_0, nz_1, nz_2, nz_3, nz_4, nz_5, nz_6, nz_7, nz_8, nz_9, nz_10, nz_11, nz_12, nz_13, nz_14, nz_15, nz_16, nz_17, nz_18, nz_19, nz_20, nz_21, nz_22, nz_23, nz_24, nz_25, nz_26, nz_27, nz_28, nz_29, nz_30, nz_31, nz_32, nz_33, nz_34, nz_35, nz_36, nz_37, nz_38, nz_39, nz_40, nz_41, nz_42, nz_43, nz_44, nz_45, nz_46, nz_47, nz_48, nz_49, nz_50, nz_51, nz_63, nz_64, nz_66, nz_127, nz_128, nz_246, nz_247, nz_248, nz_250, nz_251, nz_252, nz_254, nz_255, nz_256, nz_400, nz_2500]
  rw [t1, Option.bind_some]
  dsimp only
  rw [t2, Option.bind_some]
  dsimp only
  cases T with
  | nil =>
    rw [if_neg (show ¬ vz ([] : List Nat)[0]? = nI t from vz_ne (by omega))]
    exact sm_R.no zo_M.rf
  | cons y T =>
    have hy := sp_wt_lt (hw.2 y List.mem_cons_self)
    cases T with
    | nil =>
      show sm_R M (if nI y = nI t then (if -nI 1 = nI t then _ else some (nI 0, M)) else some (nI 0, M)) none
      rw [if_neg (vz_ne (by omega)), ite_self]
      exact sm_R.no zo_M.rf
    | cons x T =>
      have hx := sp_wt_lt (hw.2 x (List.mem_cons_of_mem _ List.mem_cons_self))
      show sm_R M (if nI y = nI t then (if nI x = nI t then some (nI 1, zm_up M 35 0 20 (M 35 0 20 - nI 1)) else some (nI 0, M)) else some (nI 0, M)) ((if y = t ∧ x = t then sp_psh t T else none).map fun T => (L, T, b))
      by_cases e1 : y = t
      · rw [if_pos (by rw [e1])]
        by_cases e2 : x = t
        · rw [if_pos (by rw [e2]), if_pos ⟨e1, e2⟩]
          subst e1 e2
          have h8 : sp_sl (x :: x :: T) ≤ 8 := h.2
          have hp : sp_psh x T = some (x :: T) := by
            unfold sp_psh
            rw [sp_sl_c, sp_sl_c] at h8
            rw [if_pos (by omega)]
          rw [hp]
          exact sm_R.yes zo_M.d (rm_drop h) (wf_tail hw)
        · rw [if_neg (ni_ne e2 (by omega) (by omega)), if_neg (fun q => e2 q.2)]
          exact sm_R.no zo_M.rf
      · rw [if_neg (ni_ne e1 (by omega) (by omega)), if_neg (fun q => e1 q.1)]
        exact sm_R.no zo_M.rf
theorem sm_swp {M : zm_M} {t u : Nat} {F : sp_F} (h : rm_F M F) (hw : wf_F F) (ht : t < 7) (hu : u < 7) : sm_R M (fn_mo_swap [.inr (35, 0), .inl (nI t), .inl (nI u)] M) ((sp_swp t u F.2.1).map fun T => (F.1, T, F.2.2)) := by
  obtain ⟨L, T, b⟩ := F
  have t1 : fn_mo_top [.inr (35, 0), .inl (nI 1)] M = some (vz T[0]?, M) := sm_top h (a := 0) (by decide)
  rw [eq_mo_swap]
  simp only [nz_0, nz_1, nz_2, nz_3, nz_4, nz_5, nz_6, nz_7, nz_8, nz_9, nz_10, nz_11, nz_12, nz_13, nz_14, nz_15, nz_16, nz_17, nz_18, nz_19, nz_20, nz_21, nz_22, nz_23, nz_24, nz_25, nz_26, nz_27, nz_28, nz_29, nz_30, nz_31, nz_32, nz_33, nz_34, nz_35, nz_36, nz_37, nz_38, nz_39, nz_40, nz_41, nz_42, nz_43, nz_44, nz_45, nz_46, nz_47, nz_48, nz_49, nz_50, nz_51, nz_63, nz_64, nz_66, nz_127, nz_128, nz_246, nz_247, nz_248, nz_250, nz_251, nz_252, nz_254, nz_255, nz_256, nz_400, nz_2500]
  rw [t1, Option.bind_some]
  dsimp only
  cases T with
  | nil =>
    rw [if_neg (show ¬ vz ([] : List Nat)[0]? = nI t from vz_ne (by omega))]
    exact sm_R.no zo_M.rf
  | cons x T =>
    have hx := sp_wt_lt (hw.2 x List.mem_cons_self)
    show sm_R M (if nI x = nI t then _ else some (nI 0, M)) ((if x = t then sp_psh u T else none).map fun T => (L, T, b))
    by_cases e1 : x = t
    · rw [if_pos (by rw [e1]), if_pos e1]
      exact sm_R.b (sm_psh zo_M.d (rm_drop h) (wf_tail hw) (wt_k hu))
    · rw [if_neg (ni_ne e1 (by omega) (by omega)), if_neg e1]
      exact sm_R.no zo_M.rf
/-- the two topmost change places -/
theorem rm_swap {M : zm_M} {x y : Nat} {L T : List Nat} {b : Bool} (h : rm_F M (L, x :: y :: T, b)) : rm_F (zm_up (zm_up M 48 0 (T.length + 1) (nI y)) 48 0 T.length (nI x)) (L, y :: x :: T, b) := by
  refine ⟨⟨h.1.1, ?_, ?_, ?_, ?_⟩, ?_⟩
  · intro i hi
    rw [zu_s (by decide), zu_s (by decide)]
    exact h.1.2.1 i hi
  · rw [zu_s (by decide), zu_s (by decide)]
    exact h.1.2.2.1
  · intro i hi
    have hi : i < T.length + 2 := hi
    show zm_up (zm_up M 48 0 (T.length + 1) (nI y)) 48 0 T.length (nI x) 48 0 i = nI ((y :: x :: T).getD (T.length + 2 - 1 - i) 0)
    by_cases e1 : i = T.length
    · subst e1
      rw [zu_e, show T.length + 2 - 1 - T.length = 1 by omega]
      rfl
    · rw [zu_k e1]
      by_cases e2 : i = T.length + 1
      · subst e2
        rw [zu_e, show T.length + 2 - 1 - (T.length + 1) = 0 by omega]
        rfl
      · rw [zu_k e2]
        have := h.1.2.2.2.1 i hi
        rw [this]
        show nI ((x :: y :: T).getD (T.length + 2 - 1 - i) 0) = _
        obtain ⟨m, hm⟩ : ∃ m, T.length + 2 - 1 - i = m + 2 := ⟨T.length + 2 - 1 - i - 2, by omega⟩
        rw [hm]
        rfl
  · rw [zu_s (by decide), zu_s (by decide)]
    exact h.1.2.2.2.2
  · have := h.2
    show sp_sl (y :: x :: T) ≤ 8
    have h8 : sp_sl (x :: y :: T) ≤ 8 := h.2
    rw [sp_sl_c, sp_sl_c] at h8 ⊢
    omega
theorem sm_simple {P : sp_P} {M : zm_M} {o : Nat} {F : sp_F} (hwP : wf_P P) (hP : rm_P P M) (h : rm_F M F) (hw : wf_F F) (ho : o ≤ 19) : sm_R M (fn_mo_simple [.inr (35, 0), .inl (nI o)] M) ((sp_stk P o F).map fun T => (F.1, T, F.2.2)) := by
  obtain ⟨L, T, b⟩ := F
  have hc : ∀ k, 1 ≤ k → k ≤ 5 → sp_stk P k (L, T, b) = sp_psh k T := by
    intro k h1 h5
    rcases (show k = 1 ∨ k = 2 ∨ k = 3 ∨ k = 4 ∨ k = 5 by omega) with rfl | rfl | rfl | rfl | rfl <;> rfl
  rcases (show o = 0 ∨ o = 1 ∨ o = 2 ∨ o = 3 ∨ o = 4 ∨ o = 5 ∨ o = 6 ∨ o = 7 ∨ o = 8 ∨ o = 9 ∨ o = 10 ∨ o = 11 ∨ o = 12 ∨ o = 13 ∨ o = 14 ∨ o = 15 ∨ o = 16 ∨ o = 17 ∨ o = 18 ∨ o = 19 by omega) with rfl | rfl | rfl | rfl | rfl | rfl | rfl | rfl | rfl | rfl | rfl | rfl | rfl | rfl | rfl | rfl | rfl | rfl | rfl | rfl
  · rw [mo_0 h]
    exact sm_R.yes zo_M.rf h hw
  · rw [mo_1 h, hc 1 (by decide) (by decide)]
    exact sm_R.b (sm_psh zo_M.rf h hw (wt_k (by decide)))
  · rw [mo_2 h, hc 2 (by decide) (by decide)]
    exact sm_R.b (sm_psh zo_M.rf h hw (wt_k (by decide)))
  · rw [mo_3 h, hc 3 (by decide) (by decide)]
    exact sm_R.b (sm_psh zo_M.rf h hw (wt_k (by decide)))
  · rw [mo_4 h, hc 4 (by decide) (by decide)]
    exact sm_R.b (sm_psh zo_M.rf h hw (wt_k (by decide)))
  · rw [mo_5 h, hc 5 (by decide) (by decide)]
    exact sm_R.b (sm_psh zo_M.rf h hw (wt_k (by decide)))
  · rw [mo_6 h]
    refine om_small (k := fun g Q => (fn_mo_takes [.inr (35, 0), .inl g, .inl (nI 1)] Q).bind fun q9 => if q9.1 = nI 0 ∨ q9.1 = nI 1 then some (q9.1, q9.2) else none) hw ?_ ?_
    · intro hs
      have e : (sp_stk P 6 (L, T, b)) = none := by
        cases T with
        | nil => rfl
        | cons x T =>
          have hs : sp_sm x = false := hs
          show (if sp_sm x then some T else none) = none
          rw [hs]; rfl
      rw [e]
      exact sm_R.b sm_takes0
    · rintro x T' rfl hs
      have := sm_R.b (sm_takes1 (g := true) h hw)
      have e : (sp_stk P 6 (L, x :: T', b)) = some T' := by
        show (if sp_sm x then some T' else none) = some T'
        rw [hs]; rfl
      rw [e]
      exact this
  · rw [mo_7 h, so_wide_v hw.2, Option.bind_some]
    dsimp only
    simp only [bI_0]
    cases T with
    | nil =>
      rw [if_pos (show Option.any (fun t => sp_wd t == 2) ([] : List Nat)[0]? = false from rfl)]
      show sm_R M ((fn_mo_isSmall [.inl (-nI 1)] M).bind _) none
      rw [so_small_m1, Option.bind_some, if_pos rfl]
      exact sm_R.b sm_takes0
    | cons x T =>
      simp only [List.getElem?_cons_zero, Option.any_some]
      by_cases e2 : sp_wd x = 2
      · rw [if_neg (by rw [e2]; decide)]
        have := sm_R.b (sm_takes1 (g := true) h hw)
        have e : (sp_stk P 7 (L, x :: T, b)) = some T := by
          show (if sp_wd x = 2 then some T else _) = some T
          rw [if_pos e2]
        rw [e]
        exact this
      · rw [if_pos (beq_eq_false_iff_ne.mpr e2)]
        have e : (sp_stk P 7 (L, x :: T, b)) = (match (generalizing := false) T with
          | y :: T => if sp_sm x && sp_sm y then some T else none
          | _ => none) := by
          show (if sp_wd x = 2 then some T else _) = _
          rw [if_neg e2]
          cases T <;> rfl
        rw [e]
        show sm_R M ((fn_mo_isSmall [.inl (nI x)] M).bind _) _
        rw [so_small (hw.2 x List.mem_cons_self), Option.bind_some]
        dsimp only
        simp only [bI_0]
        rcases Bool.eq_false_or_eq_true (sp_sm x) with hs | hs
        · rw [if_neg (by rw [hs]; decide)]
          cases T with
          | nil =>
            show sm_R M ((fn_mo_isSmall [.inl (-nI 1)] M).bind _) none
            rw [so_small_m1, Option.bind_some, if_pos rfl]
            exact sm_R.b sm_takes0
          | cons y T =>
            show sm_R M ((fn_mo_isSmall [.inl (nI y)] M).bind _) ((if sp_sm x && sp_sm y then some T else none).map fun T => (L, T, b))
            rw [so_small (hw.2 y (List.mem_cons_of_mem _ List.mem_cons_self)), Option.bind_some]
            dsimp only
            simp only [bI_0]
            rcases Bool.eq_false_or_eq_true (sp_sm y) with hs2 | hs2
            · rw [if_neg (by rw [hs2]; decide), hs, hs2]
              exact sm_R.b (sm_takes2 (g := true) h hw)
            · rw [if_pos hs2, hs, hs2]
              exact sm_R.b sm_takes0
        · rw [if_pos hs]
          cases T with
          | nil => exact sm_R.b sm_takes0
          | cons y T =>
            show sm_R M _ ((if sp_sm x && sp_sm y then some T else none).map fun T => (L, T, b))
            rw [hs]
            exact sm_R.b sm_takes0
  · rw [mo_8 h]
    refine om_small (k := fun g Q => if g = nI 0 then some (nI 0, Q) else (fn_mo_push [.inr (35, 0), .inl (vz T[0]?)] Q).bind fun q9 => if q9.1 = nI 0 then some (nI 0, q9.2) else some (nI 1, q9.2)) hw ?_ ?_
    · intro hs
      have e : (sp_stk P 8 (L, T, b)) = none := by
        cases T with
        | nil => rfl
        | cons x T =>
          have hs : sp_sm x = false := hs
          show (if sp_sm x then sp_psh x (x :: T) else none) = none
          rw [hs]; rfl
      rw [e]
      exact sm_R.no zo_M.rf
    · rintro x T' rfl hs
      have e : (sp_stk P 8 (L, x :: T', b)) = sp_psh x (x :: T') := by
        show (if sp_sm x then sp_psh x (x :: T') else none) = _
        rw [hs]; rfl
      rw [e]
      exact sm_R.n (sm_psh zo_M.rf h hw (hw.2 x List.mem_cons_self))
  · rw [mo_9 h]
    refine om_small (k := fun g Q => if g = nI 0 then some (nI 0, Q) else (fn_mo_isSmall [.inl (vz T[1]?)] Q).bind fun q20 => if q20.1 = nI 0 then some (nI 0, q20.2) else if ((q20.2 35 0 20) - nI 1) < nI 0 ∨ 9 ≤ ((q20.2 35 0 20) - nI 1).toNatClampNeg then none else if ((q20.2 35 0 20) - nI 2) < nI 0 ∨ 9 ≤ ((q20.2 35 0 20) - nI 2).toNatClampNeg then none else some (nI 1, zm_up (zm_up q20.2 48 0 (((q20.2 35 0 20) - nI 1).toNatClampNeg) (vz T[1]?)) 48 0 (((q20.2 35 0 20) - nI 2).toNatClampNeg) (vz T[0]?))) hw ?_ ?_
    · intro hs
      have e : (sp_stk P 9 (L, T, b)) = none := by
        cases T with
        | nil => rfl
        | cons x T =>
          have hs' : sp_sm x = false := hs
          cases T with
          | nil => rfl
          | cons y T =>
            show (if sp_sm x && sp_sm y then some (y :: x :: T) else none) = none
            rw [hs']; rfl
      rw [e]
      exact sm_R.no zo_M.rf
    · rintro x T' rfl hs
      rw [if_neg (by decide)]
      cases T' with
      | nil =>
        show sm_R M ((fn_mo_isSmall [.inl (-nI 1)] M).bind _) none
        rw [so_small_m1, Option.bind_some]
        exact sm_R.no zo_M.rf
      | cons y T =>
        have hd : M 35 0 20 = nI (T.length + 2) := h.1.2.2.1
        have h8 : T.length + 2 ≤ 8 := rm_len h
        show sm_R M ((fn_mo_isSmall [.inl (nI y)] M).bind _) ((if sp_sm x && sp_sm y then some (y :: x :: T) else none).map fun T => (L, T, b))
        rw [so_small (hw.2 y (List.mem_cons_of_mem _ List.mem_cons_self))]
        simp only [Option.bind_some, bI_0]
        rcases Bool.eq_false_or_eq_true (sp_sm y) with hs2 | hs2
        · rw [if_neg (by rw [hs2]; decide), hd, pk_sub (by omega), pk_sub (by omega), show T.length + 2 - 1 = T.length + 1 by omega, show T.length + 2 - 2 = T.length by omega, nI_clamp (by omega), nI_clamp (by omega), if_neg (ni_in (by omega) (by omega)), if_neg (ni_in (by omega) (by omega)), hs, hs2]
          exact sm_R.yes (zo_M.t.tr zo_M.t) (rm_swap h) (wf_cons (wf_cons (wf_tail (wf_tail hw)) (hw.2 x List.mem_cons_self)) (hw.2 y (List.mem_cons_of_mem _ List.mem_cons_self)))
        · rw [if_pos hs2, hs, hs2]
          exact sm_R.no zo_M.rf
  · rw [mo_10 h]
    exact sm_R.b (sm_sum h hw (by decide))
  · rw [mo_11 h]
    exact sm_R.b (sm_sum h hw (by decide))
  · rw [mo_12 h]
    exact sm_R.b (sm_sum h hw (by decide))
  · rw [mo_13 h]
    exact sm_R.b (sm_sum h hw (by decide))
  · rw [mo_14 h]
    exact sm_R.b (sm_swp h hw (by decide) (by decide))
  · rw [mo_15 h]
    exact sm_R.b (sm_swp h hw (by decide) (by decide))
  · rw [mo_16 h]
    exact sm_R.b (sm_swp h hw (by decide) (by decide))
  · rw [mo_17 h]
    exact sm_R.b (sm_swp h hw (by decide) (by decide))
  · have hm := hwP.2.2.1
    have hr : M 35 0 21 = bI b := h.1.2.2.2.2
    rw [mo_18 h, hP.2.2.2.1, hP.2.2.1, hr]
    simp only [bI_0]
    show sm_R M _ ((if pg_giv P || (pg_mode P == 2 && b) then none else some T).map fun T => (L, T, b))
    rcases Bool.eq_false_or_eq_true (pg_giv P) with hg | hg
    · rw [if_neg (by rw [hg]; decide), hg]
      exact sm_R.no zo_M.rf
    · rw [if_pos hg, hg]
      by_cases m2 : pg_mode P = 2
      · rw [if_pos (by rw [m2]), show (pg_mode P == 2) = true by simp [m2]]
        cases b with
        | false => exact sm_R.yes zo_M.rf h hw
        | true => exact sm_R.no zo_M.rf
      · rw [if_neg (ni_ne m2 (by omega) (by omega)), show (pg_mode P == 2) = false from beq_eq_false_iff_ne.mpr m2]
        exact sm_R.yes zo_M.rf h hw
  · rw [mo_19 h, hP.2.2.2.1]
    simp only [bI_0]
    rcases Bool.eq_false_or_eq_true (pg_giv P) with hg | hg
    · rw [if_neg (by rw [hg]; decide)]
      cases T with
      | nil =>
        rw [if_neg (show ¬ vz ([] : List Nat)[0]? = nI 1 from vz_ne (by omega))]
        exact sm_R.n sm_takes0
      | cons x T =>
        have hx := sp_wt_lt (hw.2 x List.mem_cons_self)
        show sm_R M (if nI x = nI 1 then _ else _) ((if pg_giv P && x == 1 then some T else none).map fun T => (L, T, b))
        by_cases e : x = 1
        · rw [if_pos (by rw [e]), hg, show (x == 1) = true by simp [e]]
          exact sm_R.n (sm_takes1 (g := true) h hw)
        · rw [if_neg (ni_ne e (by omega) (by omega)), hg, show (x == 1) = false from beq_eq_false_iff_ne.mpr e]
          exact sm_R.n sm_takes0
    · rw [if_pos hg]
      have e : sp_stk P 19 (L, T, b) = none := by
        cases T with
        | nil => rfl
        | cons x T =>
          show (if pg_giv P && x == 1 then some T else none) = none
          rw [hg]
          rfl
      rw [e]
      exact sm_R.no zo_M.rf
theorem sm_throw {P : sp_P} {M : zm_M} {F : sp_F} (hwP : wf_P P) (hP : rm_P P M) (h : rm_F M F) (hw : wf_F F) : ∃ M', fn_mo_simple [.inr (35, 0), .inl (nI 20)] M = some (bI (sp_stk P 20 F).isSome, M') ∧ zo_M M M' := by
  obtain ⟨L, T, b⟩ := F
  rw [mo_20 h]
  cases T with
  | nil =>
    show ∃ M', (if -nI 1 < nI 0 then some (nI 0, M) else _) = some (nI 0, M') ∧ zo_M M M'
    rw [if_pos (by decide)]
    exact ⟨M, rfl, zo_M.rf⟩
  | cons x T =>
    have hx := hw.2 x List.mem_cons_self
    have hxl := sp_wt_lt hx
    show ∃ M', (if nI x < nI 0 then some (nI 0, M) else (fn_mo_is [.inr (35, 0), .inl (nI x), .inl (nI 7)] M).bind _) = some (bI (if sp_op x && sp_is P x 7 then some (x :: T) else none).isSome, M') ∧ zo_M M M'
    rw [if_neg (ni_nl (by omega) (by omega) (by omega)), so_is hwP.1 hP.1 hx (wt_7 (c := 0) (by decide)), Option.bind_some]
    dsimp only
    simp only [bI_0]
    rcases Bool.eq_false_or_eq_true (sp_is P x 7) with hi | hi
    · have hop := is_op (c := 0) hi
      rw [if_neg (by rw [hi]; decide), hi, hop]
      have x0 : x ≠ 0 := by
        rintro rfl
        cases hop
      rw [if_neg (show ¬ vz (x :: T)[0]? = nI 0 from ni_ne x0 (by omega) (by omega))]
      obtain ⟨M', h1, h2, h3⟩ := sm_R.n (sm_takes1 (g := true) h hw)
      exact ⟨M', h1, h2⟩
    · rw [if_pos hi, hi, Bool.and_false]
      obtain ⟨M', h1, h2, h3⟩ := sm_R.n (sm_takes0 (M := M) (x := nI 1))
      exact ⟨M', h1, h2⟩
