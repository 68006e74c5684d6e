theorem is_op {P : sp_P} {x c : Nat} (h : sp_is P x (16 * c + 7) = true) : sp_op x = true := by
  unfold sp_is at h
  rw [op_iff]
  simp only [Bool.or_eq_true, Bool.and_eq_true, beq_iff_eq] at h
  rcases h with (h | h) | ⟨-, h | h⟩
  · right
    rw [h]
    exact kd_16 c
  · omega
  · exact Or.inl h
  · exact Or.inr h.1
theorem st_89 {P : sp_P} {M : zm_M} {f p o c : Nat} {F : sp_F} {v5 : Int32} (hwP : wf_P P) (hP : rc_P P M) (h : rc_F M f F) (hw : wf_F F) (hp : p < pg_n P) (ho : pg_op P p = o) (h37 : 37 ≤ o) (hc : c < 8) : st_R f M (rr_ma_stepObject (0 + 1) 89 [some (.inr (17, 0)), some (.inl (nI p)), some (.inr (23, f)), some (.inl (nI o)), some (.inl (nI (pg_a P p))), some (.inl v5)] [.inl (nI c), .inl (nI 7), .inl (vz F.2.1[0]?), .inr (1, 0)] M) (match F.2.1 with
    | x :: T => if sp_op x && sp_is P x (16 * c + 7) then (sp_psh (if o = 37 then 1 else 16 * (if o = 38 then pg_b P p else pg_a P p) + 7) T).map fun T => (F.1, T, F.2.2) else none
    | _ => none) := by
  obtain ⟨L, T, b⟩ := F
  have hI := wf_at hwP hp
  have h40 : o < 40 := by rw [← ho]; exact hI.1
  have ha8 : pg_a P p < 8 := hI.2.2.2.1 (by unfold pg_op at ho; omega)
  have h50 := hwP.n
  rw [eq_ma_stepObject_89]
  simp only [nz_0, nz_1, nz_2, nz_3, nz_4, nz_5, nz_6, nz_7, nz_8, nz_9, nz_10, nz_11, nz_12, nz_13, nz_14, nz_15, nz_16, nz_17, nz_18, nz_19, nz_20, nz_21, nz_22, nz_23, nz_24, nz_25, nz_26, nz_27, nz_28, nz_29, nz_30, nz_31, nz_32, nz_33, nz_34, nz_35, nz_36, nz_37, nz_38, nz_39, nz_40, nz_41, nz_42, nz_43, nz_44, nz_45, nz_46, nz_47, nz_48, nz_49, nz_50, nz_51, nz_63, nz_64, nz_66, nz_127, nz_128, nz_246, nz_247, nz_248, nz_250, nz_251, nz_252, nz_254, nz_255, nz_256, nz_400, nz_2500]
  rw [sc_type]
  simp only [Option.bind_some]
  cases T with
  | nil =>
    show st_R f M ((fn_fa_is [.inr (1, 0), .inl (-nI 1), .inl (nI (16 * c + 7))] M).bind _) none
    rw [sc_is_m1 hc]
    exact st_R.no zo_F.rf
  | cons x T =>
    have hx := hw.2 x List.mem_cons_self
    have hxl := sp_wt_lt hx
    dsimp only
    show st_R f M ((fn_fa_is [.inr (1, 0), .inl (nI x), .inl (nI (16 * c + 7))] M).bind _) _
    rw [sc_is hP.1 hx (wt_7 hc)]
    simp only [Option.bind_some, bI_0]
    rcases Bool.eq_false_or_eq_true (sp_is P x (16 * c + 7)) with hi | hi
    · rw [if_neg (by rw [hi]; decide), hi, is_op hi]
      obtain ⟨M1, q1, q2, q3⟩ := sc_drop h (by omega)
      have hP1 := hP.zo q2
      rw [q1]
      simp only [Option.bind_some, Bool.and_self, if_true]
      by_cases e7 : o = 37
      · rw [if_pos (by rw [e7]), if_pos e7]
        exact st_R.b (st_psh' q2 q3 (wf_tail hw) (wt_k (by decide)))
      · rw [if_neg (ni_ne e7 (by omega) (by omega)), if_neg e7]
        by_cases e8 : o = 38
        · rw [if_pos (by rw [e8]), if_pos e8, nI_clamp (by omega), if_neg (ni_in (show p < 50 by omega) (by omega)), eq_ma_stepObject_139, (hP1.i p hp).2.2, sc_type]
          exact st_R.b (st_psh' q2 q3 (wf_tail hw) (wt_7 (hI.2.2.2.2 (by unfold pg_op at ho; omega))))
        · rw [if_neg (ni_ne e8 (by omega) (by omega)), if_neg e8, eq_ma_stepObject_139, sc_type]
          exact st_R.b (st_psh' q2 q3 (wf_tail hw) (wt_7 ha8))
    · rw [if_pos hi, hi, Bool.and_false]
      exact st_R.no zo_F.rf
theorem st_object {P : sp_P} {M : zm_M} {f p : Nat} {F : sp_F} (hwP : wf_P P) (hP : rc_P P M) (h : rc_F M f F) (hw : wf_F F) (hp : p < pg_n P) (ho : 35 ≤ pg_op P p) : st_R f M (fn_ma_stepObject [.inr (17, 0), .inl (nI p), .inr (23, f)] M) (sp_stp P p F) := by
  have hI := wf_at hwP hp
  have h50 := hwP.n
  have h40 : pg_op P p < 40 := hI.1
  have ha8 : pg_a P p < 8 := hI.2.2.2.1 (by unfold pg_op at ho; omega)
  have hof := sp_off_le P p
  rw [eq_ma_stepObject, show (1 : Nat) = 0 + 1 from rfl, eq_ma_stepObject_0]
  simp only [nz_0, nz_1, nz_2, nz_3, nz_4, nz_5, nz_6, nz_7, nz_8, nz_9, nz_10, nz_11, nz_12, nz_13, nz_14, nz_15, nz_16, nz_17, nz_18, nz_19, nz_20, nz_21, nz_22, nz_23, nz_24, nz_25, nz_26, nz_27, nz_28, nz_29, nz_30, nz_31, nz_32, nz_33, nz_34, nz_35, nz_36, nz_37, nz_38, nz_39, nz_40, nz_41, nz_42, nz_43, nz_44, nz_45, nz_46, nz_47, nz_48, nz_49, nz_50, nz_51, nz_63, nz_64, nz_66, nz_127, nz_128, nz_246, nz_247, nz_248, nz_250, nz_251, nz_252, nz_254, nz_255, nz_256, nz_400, nz_2500]
  rw [nI_clamp (by omega), if_neg (ni_in (show p < 50 by omega) (by omega)), if_neg (ni_in (show p < 50 by omega) (by omega)), (hP.i p hp).1, (hP.i p hp).2.1]
  unfold sp_stp
  dsimp only
  rw [if_neg (show ¬ pg_op P p ≤ 20 by omega), if_neg (show ¬ pg_op P p ≤ 25 by omega), if_neg (show ¬ pg_op P p ≤ 30 by omega), if_neg (show ¬ pg_op P p = 31 by omega), if_neg (show ¬ pg_op P p = 32 by omega), if_neg (show ¬ pg_op P p = 33 by omega), if_neg (show ¬ pg_op P p = 34 by omega)]
  by_cases e5 : pg_op P p = 35
  · rw [if_pos (show nI (pg_op P p) = nI 35 by rw [e5]), if_pos e5, if_neg (ni_in (show p < 51 by omega) (by omega)), hP.o p (by omega), sc_type]
    exact st_R.b (st_psh' zo_F.rf h hw (wt_8 (by omega)))
  · rw [if_neg (ni_ne e5 (by omega) (by omega)), if_neg e5, sc_peek h (by decide)]
    simp only [Option.bind_some]
    by_cases e6 : pg_op P p = 36
    · rw [if_pos (show nI (pg_op P p) = nI 36 by rw [e6]), if_pos e6]
      refine st_R.b ?_
      obtain ⟨L, T, b⟩ := F
      cases T with
      | nil =>
        show st_R f M (fn_ma_stepInit [.inr (17, 0), .inl (nI (pg_a P p)), .inl (-nI 1), .inr (23, f)] M) none
        rw [st_init_m1]
        exact st_R.no zo_F.rf
      | cons x T => exact st_init hwP hP h hw ha8
    · rw [if_neg (ni_ne e6 (by omega) (by omega)), if_neg e6]
      by_cases e9 : pg_op P p = 39
      · have := st_89 (c := 0) (v5 := vz F.2.1[0]?) hwP hP h hw hp rfl (by omega) (by decide)
        rw [if_pos (show nI (pg_op P p) = nI 39 by rw [e9])]
        rw [if_pos (c := pg_op P p = 39) e9]
        exact this
      · have := st_89 (v5 := vz F.2.1[0]?) hwP hP h hw hp rfl (by omega) ha8
        rw [if_neg (ni_ne e9 (by omega) (by omega))]
        rw [if_neg (c := pg_op P p = 39) e9]
        exact this
/-- A STEP OF THE CLASS -/
theorem st_step {P : sp_P} {M : zm_M} {f p : Nat} {F : sp_F} (hwP : wf_P P) (hP : rc_P P M) (h : rc_F M f F) (hw : wf_F F) (hp : p < pg_n P) : st_R f M (fn_ma_step [.inr (17, 0), .inl (nI p), .inr (23, f)] M) (sp_stp P p F) := by
  have hI := wf_at hwP hp
  have h50 := hwP.n
  have h40 : pg_op P p < 40 := hI.1
  rw [eq_ma_step]
  simp only [nz_0, nz_1, nz_2, nz_3, nz_4, nz_5, nz_6, nz_7, nz_8, nz_9, nz_10, nz_11, nz_12, nz_13, nz_14, nz_15, nz_16, nz_17, nz_18, nz_19, nz_20, nz_21, nz_22, nz_23, nz_24, nz_25, nz_26, nz_27, nz_28, nz_29, nz_30, nz_31, nz_32, nz_33, nz_34, nz_35, nz_36, nz_37, nz_38, nz_39, nz_40, nz_41, nz_42, nz_43, nz_44, nz_45, nz_46, nz_47, nz_48, nz_49, nz_50, nz_51, nz_63, nz_64, nz_66, nz_127, nz_128, nz_246, nz_247, nz_248, nz_250, nz_251, nz_252, nz_254, nz_255, nz_256, nz_400, nz_2500]
  rw [nI_clamp (by omega), if_neg (ni_in (show p < 50 by omega) (by omega)), if_neg (ni_in (show p < 50 by omega) (by omega)), (hP.i p hp).1, (hP.i p hp).2.1]
  by_cases e13 : pg_op P p ≤ 13
  · rw [if_neg (ni_nl e13 (by omega) (by omega))]
    have := st_onstack (P := P) h hw e13
    unfold sp_stp
    dsimp only
    rw [if_pos (show pg_op P p ≤ 20 by omega)]
    exact st_R.b this
  rw [if_pos (ni_lt (by omega) (by omega) (by omega))]
  by_cases e20 : pg_op P p ≤ 20
  · rw [if_neg (ni_nl e20 (by omega) (by omega))]
    have := st_other hwP hP h hw (by omega) e20
    unfold sp_stp
    dsimp only
    rw [if_pos e20]
    exact st_R.b this
  rw [if_pos (ni_lt (by omega) (by omega) (by omega))]
  by_cases e25 : pg_op P p ≤ 25
  · have hloc := hI.2.1 (by unfold pg_op at e20; omega) (by unfold pg_op at e25; omega)
    have ha : pg_a P p < 10 := hloc.1
    rw [if_neg (ni_nl e25 (by omega) (by omega)), if_neg (ni_in (show p < 50 by omega) (by omega)), nI_clamp (by omega), if_neg (ni_in ha (by omega)), sc_lk (by omega) (by omega)]
    simp only [Option.bind_some]
    have hg : M 24 f (pg_a P p) = nI (F.1.getD (pg_a P p) 0) := h.1.2.1 _ ha
    have hwt := wt_gd hw.1 (pg_a P p)
    have hwl := sp_wt_lt hwt
    rw [hg, if_pos e25, sc_ofk (by omega)]
    simp only [Option.bind_some, bI_0]
    unfold sp_stp
    dsimp only
    rw [if_neg (show ¬ pg_op P p ≤ 20 by omega), if_pos e25]
    rcases Bool.eq_false_or_eq_true (sp_ok (F.1.getD (pg_a P p) 0) (pg_op P p - 21)) with hk | hk
    · rw [if_neg (by rw [hk]; decide), if_pos hk]
      exact st_psh zo_F.rf h hw hwt
    · rw [if_pos hk, if_neg (by rw [hk]; decide)]
      exact st_R.no zo_F.rf
  rw [if_pos (ni_lt (by omega) (by omega) (by omega))]
  by_cases e30 : pg_op P p ≤ 30
  · have hloc := hI.2.1 (by unfold pg_op at e20; omega) (by unfold pg_op at e30; omega)
    have ha : pg_a P p < 10 := hloc.1
    rw [if_neg (ni_nl e30 (by omega) (by omega))]
    have := st_store h hw (o := pg_op P p) (by omega) e30 ha (fun q => hloc.2 (by unfold pg_op at q; omega))
    unfold sp_stp
    dsimp only
    rw [if_neg (show ¬ pg_op P p ≤ 20 by omega), if_neg e25, if_pos e30]
    exact st_R.b this
  rw [if_pos (ni_lt (by omega) (by omega) (by omega))]
  by_cases e34 : pg_op P p ≤ 34
  · rw [if_neg (ni_nl e34 (by omega) (by omega))]
    exact st_R.b (st_jump h hw (by omega) e34 rfl)
  · rw [if_pos (ni_lt (by omega) (by omega) (by omega))]
    exact st_R.b (st_object hwP hP h hw hp (by omega))
