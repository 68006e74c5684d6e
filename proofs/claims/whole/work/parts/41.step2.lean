theorem sc_oon_v {M : zm_M} {T : List Nat} (hw : ∀ t ∈ T, sp_wt t) (a : Nat) : fn_mf_isObjectOrNull [.inl (vz T[a]?)] M = some (bI ((T[a]?).any sp_op), M) := by
  cases hv : T[a]? with
  | none =>
    show fn_mf_isObjectOrNull [.inl (-nI 1)] M = _
    rw [eq_mf_isObjectOrNull, sc_kind_m1]
    rfl
  | some t =>
    have := sp_wt_lt (hw t (List.mem_of_getElem? hv))
    exact sc_oon (by omega) M
theorem sc_small_v {M : zm_M} {T : List Nat} (hw : ∀ t ∈ T, sp_wt t) (a : Nat) : fn_mf_isSmall [.inl (vz T[a]?)] M = some (bI ((T[a]?).any sp_sm), M) := by
  cases hv : T[a]? with
  | none =>
    show fn_mf_isSmall [.inl (-nI 1)] M = _
    rw [eq_mf_isSmall, sc_kind_m1]
    rfl
  | some t =>
    have := sp_wt_lt (hw t (List.mem_of_getElem? hv))
    exact sc_small (by omega) M
theorem st_jump {P : sp_P} {M : zm_M} {f o p : Nat} {F : sp_F} (h : rc_F M f F) (hw : wf_F F) (h1 : 31 ≤ o) (h2 : o ≤ 34) (hop : pg_op P p = o) : st_R f M (fn_ma_stepJump [.inr (17, 0), .inl (nI o), .inr (23, f)] M) (sp_stp P p F) := by
  unfold sp_stp
  dsimp only
  rw [hop, eq_ma_stepJump]
  simp only [nz_0, nz_1, nz_2, nz_3, nz_4, nz_5, nz_6, nz_7, nz_8, nz_9, nz_10, nz_11, nz_12, nz_13, nz_14, nz_15, nz_16, nz_17, nz_18, nz_19, nz_20, nz_21, nz_22, nz_23, nz_24, nz_25, nz_26, nz_27, nz_28, nz_29, nz_30, nz_31, nz_32, nz_33, nz_34, nz_35, nz_36, nz_37, nz_38, nz_39, nz_40, nz_41, nz_42, nz_43, nz_44, nz_45, nz_46, nz_47, nz_48, nz_49, nz_50, nz_51, nz_63, nz_64, nz_66, nz_127, nz_128, nz_246, nz_247, nz_248, nz_250, nz_251, nz_252, nz_254, nz_255, nz_256, nz_400, nz_2500]
  obtain ⟨L, T, b⟩ := F
  rcases (show o = 31 ∨ o = 32 ∨ o = 33 ∨ o = 34 by omega) with rfl | rfl | rfl | rfl
  · exact st_R.yes zo_F.rf h hw
  · rw [if_neg (by decide), if_pos rfl]
    refine st_R.b ?_
    have := st_take (k := fun Q => some (nI 1, Q)) (ok := fun T => some (L, T, b)) zo_F.rf h hw (show 1 < 2 ^ 31 by omega) (fun M' T' _ h1 h2 h3 => st_R.yes h1 h2 h3)
    obtain ⟨M', q1, q2, q3⟩ := sc_take h hw (show 1 < 2 ^ 31 by omega)
    rw [q1] at this ⊢
    simp only [Option.bind_some, bI_0] at this
    cases T with
    | nil => exact st_R.no q2
    | cons x T =>
      by_cases e : x = 1
      · subst e
        exact st_R.yes q2 (q3 T rfl) (wf_tail hw)
      · show st_R f M (some (bI ((x :: T).head? == some 1), M')) (if x = 1 then some (L, T, b) else none)
        rw [if_neg e, show ((x :: T).head? == some 1) = false by simp [e]]
        exact st_R.no q2
  · rw [if_neg (by decide), if_neg (by decide), sc_peek h (by decide)]
    simp only [Option.bind_some]
    rw [sc_oon_v hw.2]
    simp only [Option.bind_some, bI_0]
    cases T with
    | nil => exact st_R.no zo_F.rf
    | cons x T =>
      have hx := sp_wt_lt (hw.2 x List.mem_cons_self)
      obtain ⟨M', q1, q2, q3⟩ := sc_drop h (by omega)
      show st_R f M _ (if sp_op x then some (L, T, b) else none)
      simp only [List.getElem?_cons_zero, Option.any_some]
      rcases Bool.eq_false_or_eq_true (sp_op x) with ho | ho
      · rw [if_neg (by rw [ho]; decide), if_neg (by decide), q1, if_pos ho]
        simp only [Option.bind_some]
        rw [if_neg (by decide)]
        exact st_R.yes q2 q3 (wf_tail hw)
      · rw [if_pos ho, if_neg (by rw [ho]; decide)]
        exact st_R.no zo_F.rf
  · rw [if_neg (by decide), if_neg (by decide), sc_peek h (by decide)]
    simp only [Option.bind_some]
    rw [sc_oon_v hw.2]
    simp only [Option.bind_some, bI_0]
    cases T with
    | nil => exact st_R.no zo_F.rf
    | cons x T =>
      have hx := sp_wt_lt (hw.2 x List.mem_cons_self)
      obtain ⟨M', q1, q2, q3⟩ := sc_drop h (by omega)
      simp only [List.getElem?_cons_zero, Option.any_some]
      rcases Bool.eq_false_or_eq_true (sp_op x) with ho | ho
      · rw [if_neg (by rw [ho]; decide), if_pos trivial, sc_peek h (by decide)]
        simp only [Option.bind_some]
        rw [sc_oon_v hw.2]
        simp only [Option.bind_some, bI_0]
        cases T with
        | nil => exact st_R.no zo_F.rf
        | cons y T =>
          have hy := sp_wt_lt (hw.2 y (List.mem_cons_of_mem _ List.mem_cons_self))
          obtain ⟨M2, r1, r2, r3⟩ := sc_drop q3 (by omega)
          show st_R f M _ (if sp_op x && sp_op y then some (L, T, b) else none)
          simp only [List.getElem?_cons_succ, List.getElem?_cons_zero, Option.any_some]
          rcases Bool.eq_false_or_eq_true (sp_op y) with hoy | hoy
          · rw [if_neg (by rw [hoy]; decide), q1, if_pos (by rw [ho, hoy]; rfl)]
            simp only [Option.bind_some]
            rw [if_pos trivial, r1]
            exact st_R.yes (q2.tr r2) r3 (wf_tail (wf_tail hw))
          · rw [if_pos hoy, if_neg (by rw [ho, hoy]; decide)]
            exact st_R.no zo_F.rf
      · rw [if_pos ho]
        cases T with
        | nil => exact st_R.no zo_F.rf
        | cons y T =>
          show st_R f M _ (if sp_op x && sp_op y then some (L, T, b) else none)
          rw [if_neg (by rw [ho, Bool.false_and]; decide)]
          exact st_R.no zo_F.rf
/-! LOAD, STORE -/
theorem sc_lk {o : Nat} (h1 : 21 ≤ o) (h2 : o ≤ 30) (M : zm_M) : fn_mf_localKindOf [.inl (nI o)] M = some (nI (sp_tk (if o ≤ 25 then o - 21 else o - 26)), M) := by
  rw [eq_mf_localKindOf]
  rcases (show o = 21 ∨ o = 22 ∨ o = 23 ∨ o = 24 ∨ o = 25 ∨ o = 26 ∨ o = 27 ∨ o = 28 ∨ o = 29 ∨ o = 30 by omega) with rfl | rfl | rfl | rfl | rfl | rfl | rfl | rfl | rfl | rfl <;> rfl
theorem sp_tk_c (k : Nat) : sp_tk k = 7 ∨ sp_tk k < 7 := by
  unfold sp_tk
  split <;> omega
theorem sc_ofk {t k : Nat} (h : t < 2 ^ 31) (M : zm_M) : fn_mf_isOfKind [.inl (nI t), .inl (nI (sp_tk k))] M = some (bI (sp_ok t k), M) := by
  unfold sp_ok
  rcases sp_tk_c k with e | e
  · rw [if_pos e, e]
    exact sc_ofRef h M
  · rw [if_neg (by omega)]
    exact sc_ofKind h e M
theorem sc_ofk_m1 {k : Nat} (M : zm_M) : fn_mf_isOfKind [.inl (-nI 1), .inl (nI (sp_tk k))] M = some (nI 0, M) := by
  rw [eq_mf_isOfKind]
  simp only [nz_0, nz_1, nz_2, nz_3, nz_4, nz_5, nz_6, nz_7, nz_8, nz_9, nz_10, nz_11, nz_12, nz_13, nz_14, nz_15, nz_16, nz_17, nz_18, nz_19, nz_20, nz_21, nz_22, nz_23, nz_24, nz_25, nz_26, nz_27, nz_28, nz_29, nz_30, nz_31, nz_32, nz_33, nz_34, nz_35, nz_36, nz_37, nz_38, nz_39, nz_40, nz_41, nz_42, nz_43, nz_44, nz_45, nz_46, nz_47, nz_48, nz_49, nz_50, nz_51, nz_63, nz_64, nz_66, nz_127, nz_128, nz_246, nz_247, nz_248, nz_250, nz_251, nz_252, nz_254, nz_255, nz_256, nz_400, nz_2500]
  rcases sp_tk_c k with e | e
  · rw [e, if_pos rfl, sc_kind_m1]
    simp only [Option.bind_some]
    rw [if_neg (by decide), sc_kind_m1]
    rfl
  · rw [if_neg (by rw [nI_eq (by omega) (by omega)]; omega), if_neg (vz_ne (by omega))]
theorem st_store {M : zm_M} {f o a : Nat} {F : sp_F} (h : rc_F M f F) (hw : wf_F F) (h1 : 26 ≤ o) (h2 : o ≤ 30) (ha : a < 10) (ha9 : o = 27 ∨ o = 29 → a < 9) : st_R f M (fn_ma_stepStore [.inr (17, 0), .inl (nI o), .inl (nI a), .inr (23, f)] M) (match F.2.1 with
    | x :: T => if sp_ok x (o - 26) then some (sp_sto F.1 a x, T, F.2.2) else none
    | _ => none) := by
  rw [eq_ma_stepStore, nz_0, sc_peek h (by decide)]
  simp only [Option.bind_some, sc_lk (show 21 ≤ o by omega) h2, if_neg (show ¬ o ≤ 25 by omega), nz_1]
  obtain ⟨L, T, b⟩ := F
  cases T with
  | nil =>
    show st_R f M ((fn_mf_isOfKind [.inl (-nI 1), .inl (nI (sp_tk (o - 26)))] M).bind _) none
    rw [sc_ofk_m1]
    exact st_R.no zo_F.rf
  | cons x T =>
    have hx := sp_wt_lt (hw.2 x List.mem_cons_self)
    simp only [List.getElem?_cons_zero, vz]
    rw [sc_ofk (by omega)]
    simp only [Option.bind_some, bI_0]
    rcases Bool.eq_false_or_eq_true (sp_ok x (o - 26)) with hk | hk
    · rw [if_neg (by rw [hk]; decide), if_pos hk]
      obtain ⟨M1, q1, q2, q3⟩ := sc_drop h (by omega)
      have h9 : sp_wd x = 2 → a < 9 := by
        intro hwd
        apply ha9
        have hx34 : x = 3 ∨ x = 4 := by
          unfold sp_wd at hwd
          split at hwd
          · assumption
          · omega
        rcases (show o = 26 ∨ o = 27 ∨ o = 28 ∨ o = 29 ∨ o = 30 by omega) with rfl | rfl | rfl | rfl | rfl
        · rcases hx34 with rfl | rfl <;> exact absurd hk (by decide)
        · exact Or.inl rfl
        · rcases hx34 with rfl | rfl <;> exact absurd hk (by decide)
        · exact Or.inr rfl
        · rcases hx34 with rfl | rfl <;> exact absurd hk (by decide)
      obtain ⟨M2, r1, r2, r3⟩ := sc_store q3 (wf_tail hw) ha (show x < 2 ^ 31 by omega) h9
      rw [q1]
      simp only [Option.bind_some, r1]
      refine st_R.yes (q2.tr r2) r3 ⟨?_, (wf_tail hw).2⟩
      intro t ht
      have hmem : ∀ {L : List Nat} {i v : Nat}, (∀ t ∈ L, sp_wt t) → sp_wt v → ∀ t ∈ L.set i v, sp_wt t := fun hL hv t ht => by
        rcases List.mem_or_eq_of_mem_set ht with q | q
        · exact hL t q
        · rw [q]; exact hv
      have h0 : sp_wt 0 := wt_k (by decide)
      have hxw := hw.2 x List.mem_cons_self
      unfold sp_sto at ht
      dsimp only at ht
      repeat' split at ht
      · exact hmem (hmem (hmem hw.1 h0) hxw) h0 t ht
      · exact hmem (hmem hw.1 hxw) h0 t ht
      · exact hmem (hmem hw.1 h0) hxw t ht
      · exact hmem hw.1 hxw t ht
    · rw [if_pos hk, if_neg (by rw [hk]; decide)]
      exact st_R.no zo_F.rf
