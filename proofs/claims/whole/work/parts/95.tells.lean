/-! method, argument, handle -/
/-- the METHOD has changed, the findings are forgotten -/
theorem iv_forget {P P' : sp_P} {B : List Nat} {M N : zm_M} (hc : ivc P B M) (hP : rc_P P' N) (hk : ∀ s, 14 < s → s < 26 → N s = M s) : ivc P' B (zm_up (zm_up N 18 0 8 (nI 0)) 29 0 9 (nI 0)) := by
  refine ivc_f hc (hP.kept fun s hs => by rw [zu_s (by omega), zu_s (by omega)]) (hc.2.1.kept ?_ ?_) (Or.inl ?_) zu_e ?_
  · rw [zu_s (by decide), zu_s (by decide), hk 15 (by decide) (by decide)]
  · rw [zu_s (by decide), zu_s (by decide), hk 16 (by decide) (by decide)]
  · rw [zu_s (by decide), zu_e]
  · intro s h1 h2
    rw [zu_s (by omega), zu_s (by omega), hk s (by omega) h2]
theorem sc_forget (M : zm_M) : fn_mf_forgetFindings [.inr (0, 0)] M = some (zm_up (zm_up M 18 0 8 (nI 0)) 29 0 9 (nI 0)) := by
  rw [eq_mf_forgetFindings]
  simp only [nz_0, nz_1, nz_2, nz_3, nz_4, nz_5, nz_6, nz_7, nz_8, nz_9, nz_10, nz_11, nz_12, nz_13, nz_14, nz_15, nz_16, nz_17, nz_18, nz_19, nz_20, nz_21, nz_22, nz_23, nz_24, nz_25, nz_26, nz_27, nz_28, nz_29, nz_30, nz_31, nz_32, nz_33, nz_34, nz_35, nz_36, nz_37, nz_38, nz_39, nz_40, nz_41, nz_42, nz_43, nz_44, nz_45, nz_46, nz_47, nz_48, nz_49, nz_50, nz_51, nz_63, nz_64, nz_66, nz_127, nz_128, nz_246, nz_247, nz_248, nz_250, nz_251, nz_252, nz_254, nz_255, nz_256, nz_400, nz_2500]
theorem sc_isClassn {x : Int32} (h : x < nI 0) (M : zm_M) : fn_mf_isClass [.inl x] M = some (nI 0, M) := by
  rw [eq_mf_isClass]
  simp only [nz_0, nz_1, nz_2, nz_3, nz_4, nz_5, nz_6, nz_7, nz_8, nz_9, nz_10, nz_11, nz_12, nz_13, nz_14, nz_15, nz_16, nz_17, nz_18, nz_19, nz_20, nz_21, nz_22, nz_23, nz_24, nz_25, nz_26, nz_27, nz_28, nz_29, nz_30, nz_31, nz_32, nz_33, nz_34, nz_35, nz_36, nz_37, nz_38, nz_39, nz_40, nz_41, nz_42, nz_43, nz_44, nz_45, nz_46, nz_47, nz_48, nz_49, nz_50, nz_51, nz_63, nz_64, nz_66, nz_127, nz_128, nz_246, nz_247, nz_248, nz_250, nz_251, nz_252, nz_254, nz_255, nz_256, nz_400, nz_2500]
  rw [if_pos h]
theorem sc_isPlacen {x : Int32} (h : x < nI 0) (M : zm_M) : fn_mf_isPlace [.inl x] M = some (nI 0, M) := by
  rw [eq_mf_isPlace]
  simp only [nz_0, nz_1, nz_2, nz_3, nz_4, nz_5, nz_6, nz_7, nz_8, nz_9, nz_10, nz_11, nz_12, nz_13, nz_14, nz_15, nz_16, nz_17, nz_18, nz_19, nz_20, nz_21, nz_22, nz_23, nz_24, nz_25, nz_26, nz_27, nz_28, nz_29, nz_30, nz_31, nz_32, nz_33, nz_34, nz_35, nz_36, nz_37, nz_38, nz_39, nz_40, nz_41, nz_42, nz_43, nz_44, nz_45, nz_46, nz_47, nz_48, nz_49, nz_50, nz_51, nz_63, nz_64, nz_66, nz_127, nz_128, nz_246, nz_247, nz_248, nz_250, nz_251, nz_252, nz_254, nz_255, nz_256, nz_400, nz_2500]
  rw [if_pos h]
theorem sc_isPlace {c : Nat} (hc : c < 2 ^ 31) (M : zm_M) : fn_mf_isPlace [.inl (nI c)] M = some (bI (decide (c < 50)), M) := by
  rw [eq_mf_isPlace]
  simp only [nz_0, nz_1, nz_2, nz_3, nz_4, nz_5, nz_6, nz_7, nz_8, nz_9, nz_10, nz_11, nz_12, nz_13, nz_14, nz_15, nz_16, nz_17, nz_18, nz_19, nz_20, nz_21, nz_22, nz_23, nz_24, nz_25, nz_26, nz_27, nz_28, nz_29, nz_30, nz_31, nz_32, nz_33, nz_34, nz_35, nz_36, nz_37, nz_38, nz_39, nz_40, nz_41, nz_42, nz_43, nz_44, nz_45, nz_46, nz_47, nz_48, nz_49, nz_50, nz_51, nz_63, nz_64, nz_66, nz_127, nz_128, nz_246, nz_247, nz_248, nz_250, nz_251, nz_252, nz_254, nz_255, nz_256, nz_400, nz_2500]
  rw [if_neg (ni_nl (by omega) hc (by omega))]
  by_cases e : c < 50
  · rw [if_pos (ni_lt e hc (by omega)), decide_eq_true e]
    rfl
  · rw [if_neg (ni_nl (by omega) hc (by omega)), decide_eq_false e]
    rfl
/-- 0 to k -/
theorem so_in0 {c k : Nat} (hc : c < 2 ^ 31) (hk : k < 2 ^ 30) (M : zm_M) : fn_mo_in [.inl (nI c), .inl (nI 0), .inl (nI k)] M = some (bI (decide (c < k + 1)), M) := by
  rw [so_in hc (by omega) (by omega), decide_eq_true (Nat.zero_le c), Bool.true_and, decide_eq_decide.mpr (show c ≤ k ↔ c < k + 1 by omega)]
theorem nb0 {b : Bool} {M : zm_M} (h : b = true) : ¬ ((bI b, M) : Int32 × zm_M).1 = nI 0 := by
  rw [h]
  show ¬ bI true = nI 0
  decide
theorem pb0 {b : Bool} {M : zm_M} (h : b = false) : ((bI b, M) : Int32 × zm_M).1 = nI 0 := by
  rw [h]
  rfl
theorem cl_method {P : sp_P} {B : List Nat} {M : zm_M} (hi : iv P B M) (x y : Int32) (f : Bool) : cl (fn_mf_method [.inr (0, 0), .inl x, .inl y, .inl (bI f)]) (fn_mo_method [.inr (35, 0), .inl x, .inl y, .inl (bI f)]) M := by
  obtain ⟨hW, hc, hm⟩ := id hi
  obtain ⟨hw, hl, hb⟩ := id hW
  rcases i_cs x with h | ⟨o, ho, rfl⟩
  · refine cl_same hi (v := nI 0) ?_ ?_
    · rw [eq_mf_method, sc_isClassn h, Option.bind_some]
      simp only [nz_0, nz_1, nz_2, nz_3, nz_4, nz_5, nz_6, nz_7, nz_8, nz_9, nz_10, nz_11, nz_12, nz_13, nz_14, nz_15, nz_16, nz_17, nz_18, nz_19, nz_20, nz_21, nz_22, nz_23, nz_24, nz_25, nz_26, nz_27, nz_28, nz_29, nz_30, nz_31, nz_32, nz_33, nz_34, nz_35, nz_36, nz_37, nz_38, nz_39, nz_40, nz_41, nz_42, nz_43, nz_44, nz_45, nz_46, nz_47, nz_48, nz_49, nz_50, nz_51, nz_63, nz_64, nz_66, nz_127, nz_128, nz_246, nz_247, nz_248, nz_250, nz_251, nz_252, nz_254, nz_255, nz_256, nz_400, nz_2500]
      rw [if_pos trivial]
    · rw [eq_mo_method]
      simp only [nz_0, nz_1, nz_2, nz_3, nz_4, nz_5, nz_6, nz_7, nz_8, nz_9, nz_10, nz_11, nz_12, nz_13, nz_14, nz_15, nz_16, nz_17, nz_18, nz_19, nz_20, nz_21, nz_22, nz_23, nz_24, nz_25, nz_26, nz_27, nz_28, nz_29, nz_30, nz_31, nz_32, nz_33, nz_34, nz_35, nz_36, nz_37, nz_38, nz_39, nz_40, nz_41, nz_42, nz_43, nz_44, nz_45, nz_46, nz_47, nz_48, nz_49, nz_50, nz_51, nz_63, nz_64, nz_66, nz_127, nz_128, nz_246, nz_247, nz_248, nz_250, nz_251, nz_252, nz_254, nz_255, nz_256, nz_400, nz_2500]
      rw [so_inn h, Option.bind_some]
      rfl
  by_cases e1 : o < 8
  rotate_left
  · refine cl_same hi (v := nI 0) ?_ ?_
    · rw [eq_mf_method, sc_isClass ho, Option.bind_some]
      simp only [nz_0, nz_1, nz_2, nz_3, nz_4, nz_5, nz_6, nz_7, nz_8, nz_9, nz_10, nz_11, nz_12, nz_13, nz_14, nz_15, nz_16, nz_17, nz_18, nz_19, nz_20, nz_21, nz_22, nz_23, nz_24, nz_25, nz_26, nz_27, nz_28, nz_29, nz_30, nz_31, nz_32, nz_33, nz_34, nz_35, nz_36, nz_37, nz_38, nz_39, nz_40, nz_41, nz_42, nz_43, nz_44, nz_45, nz_46, nz_47, nz_48, nz_49, nz_50, nz_51, nz_63, nz_64, nz_66, nz_127, nz_128, nz_246, nz_247, nz_248, nz_250, nz_251, nz_252, nz_254, nz_255, nz_256, nz_400, nz_2500]
      rw [if_pos (pb0 (M := M) (decide_eq_false e1))]
    · rw [eq_mo_method]
      simp only [nz_0, nz_1, nz_2, nz_3, nz_4, nz_5, nz_6, nz_7, nz_8, nz_9, nz_10, nz_11, nz_12, nz_13, nz_14, nz_15, nz_16, nz_17, nz_18, nz_19, nz_20, nz_21, nz_22, nz_23, nz_24, nz_25, nz_26, nz_27, nz_28, nz_29, nz_30, nz_31, nz_32, nz_33, nz_34, nz_35, nz_36, nz_37, nz_38, nz_39, nz_40, nz_41, nz_42, nz_43, nz_44, nz_45, nz_46, nz_47, nz_48, nz_49, nz_50, nz_51, nz_63, nz_64, nz_66, nz_127, nz_128, nz_246, nz_247, nz_248, nz_250, nz_251, nz_252, nz_254, nz_255, nz_256, nz_400, nz_2500]
      rw [so_in0 ho (by omega), Option.bind_some, if_pos (pb0 (decide_eq_false e1))]
  rcases i_cs y with h | ⟨md, hmd, rfl⟩
  · refine cl_same hi (v := nI 0) ?_ ?_
    · rw [eq_mf_method, sc_isClass ho, Option.bind_some]
      simp only [nz_0, nz_1, nz_2, nz_3, nz_4, nz_5, nz_6, nz_7, nz_8, nz_9, nz_10, nz_11, nz_12, nz_13, nz_14, nz_15, nz_16, nz_17, nz_18, nz_19, nz_20, nz_21, nz_22, nz_23, nz_24, nz_25, nz_26, nz_27, nz_28, nz_29, nz_30, nz_31, nz_32, nz_33, nz_34, nz_35, nz_36, nz_37, nz_38, nz_39, nz_40, nz_41, nz_42, nz_43, nz_44, nz_45, nz_46, nz_47, nz_48, nz_49, nz_50, nz_51, nz_63, nz_64, nz_66, nz_127, nz_128, nz_246, nz_247, nz_248, nz_250, nz_251, nz_252, nz_254, nz_255, nz_256, nz_400, nz_2500]
      rw [if_neg (nb0 (M := M) (decide_eq_true e1)), if_pos h]
    · rw [eq_mo_method]
      simp only [nz_0, nz_1, nz_2, nz_3, nz_4, nz_5, nz_6, nz_7, nz_8, nz_9, nz_10, nz_11, nz_12, nz_13, nz_14, nz_15, nz_16, nz_17, nz_18, nz_19, nz_20, nz_21, nz_22, nz_23, nz_24, nz_25, nz_26, nz_27, nz_28, nz_29, nz_30, nz_31, nz_32, nz_33, nz_34, nz_35, nz_36, nz_37, nz_38, nz_39, nz_40, nz_41, nz_42, nz_43, nz_44, nz_45, nz_46, nz_47, nz_48, nz_49, nz_50, nz_51, nz_63, nz_64, nz_66, nz_127, nz_128, nz_246, nz_247, nz_248, nz_250, nz_251, nz_252, nz_254, nz_255, nz_256, nz_400, nz_2500]
      rw [so_in0 ho (by omega), Option.bind_some, if_neg (nb0 (decide_eq_true e1)), so_inn h, Option.bind_some]
      rfl
  by_cases e2 : md ≤ 2
  rotate_left
  · refine cl_same hi (v := nI 0) ?_ ?_
    · rw [eq_mf_method, sc_isClass ho, Option.bind_some]
      simp only [nz_0, nz_1, nz_2, nz_3, nz_4, nz_5, nz_6, nz_7, nz_8, nz_9, nz_10, nz_11, nz_12, nz_13, nz_14, nz_15, nz_16, nz_17, nz_18, nz_19, nz_20, nz_21, nz_22, nz_23, nz_24, nz_25, nz_26, nz_27, nz_28, nz_29, nz_30, nz_31, nz_32, nz_33, nz_34, nz_35, nz_36, nz_37, nz_38, nz_39, nz_40, nz_41, nz_42, nz_43, nz_44, nz_45, nz_46, nz_47, nz_48, nz_49, nz_50, nz_51, nz_63, nz_64, nz_66, nz_127, nz_128, nz_246, nz_247, nz_248, nz_250, nz_251, nz_252, nz_254, nz_255, nz_256, nz_400, nz_2500]
      rw [if_neg (nb0 (M := M) (decide_eq_true e1)), if_neg (ni_nl (by omega) hmd (by omega)), if_pos (ni_lt (by omega) (by omega) hmd)]
    · rw [eq_mo_method]
      simp only [nz_0, nz_1, nz_2, nz_3, nz_4, nz_5, nz_6, nz_7, nz_8, nz_9, nz_10, nz_11, nz_12, nz_13, nz_14, nz_15, nz_16, nz_17, nz_18, nz_19, nz_20, nz_21, nz_22, nz_23, nz_24, nz_25, nz_26, nz_27, nz_28, nz_29, nz_30, nz_31, nz_32, nz_33, nz_34, nz_35, nz_36, nz_37, nz_38, nz_39, nz_40, nz_41, nz_42, nz_43, nz_44, nz_45, nz_46, nz_47, nz_48, nz_49, nz_50, nz_51, nz_63, nz_64, nz_66, nz_127, nz_128, nz_246, nz_247, nz_248, nz_250, nz_251, nz_252, nz_254, nz_255, nz_256, nz_400, nz_2500]
      rw [so_in0 ho (by omega), Option.bind_some, if_neg (nb0 (decide_eq_true e1)), so_in0 hmd (by omega), Option.bind_some, if_pos (pb0 (decide_eq_false (by omega)))]
  have hbeg : fn_pr_begin [.inr (5, 0), .inl (nI o), .inl (nI md), .inl (bI f)] M = some (zm_up (zm_up (zm_up (zm_up (zm_up (zm_up M 5 0 0 (nI o)) 5 0 1 (nI md)) 5 0 2 (bI (f && decide (md < 2)))) 5 0 4 (nI 0)) 5 0 9 (nI 0)) 5 0 14 (nI 0)) := by
    rw [eq_pr_begin]
    simp only [nz_0, nz_1, nz_2, nz_3, nz_4, nz_5, nz_6, nz_7, nz_8, nz_9, nz_10, nz_11, nz_12, nz_13, nz_14, nz_15, nz_16, nz_17, nz_18, nz_19, nz_20, nz_21, nz_22, nz_23, nz_24, nz_25, nz_26, nz_27, nz_28, nz_29, nz_30, nz_31, nz_32, nz_33, nz_34, nz_35, nz_36, nz_37, nz_38, nz_39, nz_40, nz_41, nz_42, nz_43, nz_44, nz_45, nz_46, nz_47, nz_48, nz_49, nz_50, nz_51, nz_63, nz_64, nz_66, nz_127, nz_128, nz_246, nz_247, nz_248, nz_250, nz_251, nz_252, nz_254, nz_255, nz_256, nz_400, nz_2500, bI_0]
    cases f with
    | false => rfl
    | true =>
      rw [if_neg (by decide)]
      by_cases e : md = 2
      · rw [if_pos (by rw [e]), e]
        rfl
      · rw [if_neg (ni_ne e hmd (by omega)), decide_eq_true (show md < 2 by omega)]
        rfl
  have hcl : fn_mf_method [.inr (0, 0), .inl (nI o), .inl (nI md), .inl (bI f)] M = some (nI 1, zm_up (zm_up (zm_up (zm_up (zm_up (zm_up (zm_up (zm_up M 5 0 0 (nI o)) 5 0 1 (nI md)) 5 0 2 (bI (f && decide (md < 2)))) 5 0 4 (nI 0)) 5 0 9 (nI 0)) 5 0 14 (nI 0)) 18 0 8 (nI 0)) 29 0 9 (nI 0)) := by
    rw [eq_mf_method, sc_isClass ho, Option.bind_some]
    simp only [nz_0, nz_1, nz_2, nz_3, nz_4, nz_5, nz_6, nz_7, nz_8, nz_9, nz_10, nz_11, nz_12, nz_13, nz_14, nz_15, nz_16, nz_17, nz_18, nz_19, nz_20, nz_21, nz_22, nz_23, nz_24, nz_25, nz_26, nz_27, nz_28, nz_29, nz_30, nz_31, nz_32, nz_33, nz_34, nz_35, nz_36, nz_37, nz_38, nz_39, nz_40, nz_41, nz_42, nz_43, nz_44, nz_45, nz_46, nz_47, nz_48, nz_49, nz_50, nz_51, nz_63, nz_64, nz_66, nz_127, nz_128, nz_246, nz_247, nz_248, nz_250, nz_251, nz_252, nz_254, nz_255, nz_256, nz_400, nz_2500]
    rw [if_neg (nb0 (M := M) (decide_eq_true e1)), if_neg (ni_nl (by omega) hmd (by omega)), if_neg (ni_nl e2 (by omega) hmd), hbeg, Option.bind_some, sc_forget, Option.bind_some]
  have z1 : zo_H M (zm_up (zm_up (zm_up (zm_up (zm_up (zm_up (zm_up (zm_up M 5 0 0 (nI o)) 5 0 1 (nI md)) 5 0 2 (bI (f && decide (md < 2)))) 5 0 4 (nI 0)) 5 0 9 (nI 0)) 5 0 14 (nI 0)) 18 0 8 (nI 0)) 29 0 9 (nI 0)) := by
    intro s hs
    rw [zu_s (by omega), zu_s (by omega), zu_s (by omega), zu_s (by omega), zu_s (by omega), zu_s (by omega), zu_s (by omega), zu_s (by omega)]
  have hC : ivc (pg_sup P, pg_face P, o, md, f && decide (md < 2), [], [], []) B (zm_up (zm_up (zm_up (zm_up (zm_up (zm_up (zm_up (zm_up M 5 0 0 (nI o)) 5 0 1 (nI md)) 5 0 2 (bI (f && decide (md < 2)))) 5 0 4 (nI 0)) 5 0 9 (nI 0)) 5 0 14 (nI 0)) 18 0 8 (nI 0)) 29 0 9 (nI 0)) := by
    refine iv_forget hc ?_ ?_
    · have k : ∀ s, s ≠ 5 → zm_up (zm_up (zm_up (zm_up (zm_up (zm_up M 5 0 0 (nI o)) 5 0 1 (nI md)) 5 0 2 (bI (f && decide (md < 2)))) 5 0 4 (nI 0)) 5 0 9 (nI 0)) 5 0 14 (nI 0) s = M s := by
        intro s hs
        rw [zu_s hs, zu_s hs, zu_s hs, zu_s hs, zu_s hs, zu_s hs]
      refine ⟨?_, ?_, ?_, ?_, ?_, fun i hi => (by cases hi), ?_, fun p hp => (by cases hp), ?_, ?_, fun h hh => (by cases hh)⟩
      · unfold rc_C
        rw [k 2 (by decide), k 3 (by decide), k 4 (by decide)]
        exact hc.1.1
      · rw [zu_k (by decide), zu_k (by decide), zu_k (by decide), zu_k (by decide), zu_k (by decide), zu_e]
        rfl
      · rw [zu_k (by decide), zu_k (by decide), zu_k (by decide), zu_k (by decide), zu_e]
        rfl
      · rw [zu_k (by decide), zu_k (by decide), zu_k (by decide), zu_e]
        rfl
      · rw [zu_k (by decide), zu_k (by decide), zu_e]
        rfl
      · rw [zu_k (by decide), zu_e]
        rfl
      · intro p hp
        have hp0 : p = 0 := Nat.le_zero.mp hp
        subst hp0
        rw [k 10 (by decide)]
        exact hc.1.2.2.2.2.2.2.2.2.1 0 (Nat.zero_le _)
      · rw [zu_e]
        rfl
    · intro s h1 h2
      rw [zu_s (by omega), zu_s (by omega), zu_s (by omega), zu_s (by omega), zu_s (by omega), zu_s (by omega)]
  generalize zm_up (zm_up (zm_up (zm_up (zm_up (zm_up (zm_up (zm_up M 5 0 0 (nI o)) 5 0 1 (nI md)) 5 0 2 (bI (f && decide (md < 2)))) 5 0 4 (nI 0)) 5 0 9 (nI 0)) 5 0 14 (nI 0)) 18 0 8 (nI 0)) 29 0 9 (nI 0) = M1 at hcl z1 hC
  have hm1 := z1.m hm
  have hmo : fn_mo_method [.inr (35, 0), .inl (nI o), .inl (nI md), .inl (bI f)] M1 = some (nI 1, zm_up (zm_up (zm_up (zm_up (zm_up (zm_up M1 35 0 2 (nI o)) 35 0 3 (nI md)) 35 0 8 (bI (f && decide (md < 2)))) 35 0 4 (nI 0)) 35 0 5 (nI 0)) 35 0 6 (nI 0)) := by
    rw [eq_mo_method]
    simp only [nz_0, nz_1, nz_2, nz_3, nz_4, nz_5, nz_6, nz_7, nz_8, nz_9, nz_10, nz_11, nz_12, nz_13, nz_14, nz_15, nz_16, nz_17, nz_18, nz_19, nz_20, nz_21, nz_22, nz_23, nz_24, nz_25, nz_26, nz_27, nz_28, nz_29, nz_30, nz_31, nz_32, nz_33, nz_34, nz_35, nz_36, nz_37, nz_38, nz_39, nz_40, nz_41, nz_42, nz_43, nz_44, nz_45, nz_46, nz_47, nz_48, nz_49, nz_50, nz_51, nz_63, nz_64, nz_66, nz_127, nz_128, nz_246, nz_247, nz_248, nz_250, nz_251, nz_252, nz_254, nz_255, nz_256, nz_400, nz_2500]
    rw [so_in0 ho (by omega), Option.bind_some, if_neg (nb0 (decide_eq_true e1)), so_in0 hmd (by omega), Option.bind_some, if_neg (nb0 (decide_eq_true (by omega)))]
    simp only [bI_0]
    cases f with
    | false => rfl
    | true =>
      rw [if_neg (by decide)]
      by_cases e : md < 2
      · rw [if_pos (ni_lt e hmd (by omega)), decide_eq_true e]
        rfl
      · rw [if_neg (ni_nl (by omega) hmd (by omega)), decide_eq_false e]
        rfl
  have k : ∀ s, s ≠ 35 → zm_up (zm_up (zm_up (zm_up (zm_up (zm_up M1 35 0 2 (nI o)) 35 0 3 (nI md)) 35 0 8 (bI (f && decide (md < 2)))) 35 0 4 (nI 0)) 35 0 5 (nI 0)) 35 0 6 (nI 0) s = M1 s := by
    intro s hs
    rw [zu_s hs, zu_s hs, zu_s hs, zu_s hs, zu_s hs, zu_s hs]
  refine cl_mk hcl z1 hmo (fun s hs => k s (by omega)) (P' := (pg_sup P, pg_face P, o, md, f && decide (md < 2), [], [], [])) (B' := B) ⟨⟨hw.1, e1, e2, Nat.zero_le _, fun t ht => (by cases ht), Nat.zero_le _, fun q hq => (by cases hq), Nat.zero_le _, fun q hq => (by cases hq), ?_⟩, hl, hb⟩ hC ⟨⟨?_, ?_, ?_, ?_, ?_, fun i hi => (by cases hi), ?_, fun p hp => (by cases hp), ?_, fun h hh => (by cases hh)⟩, ?_, ?_⟩
  · intro (h2 : md = 2)
    show (f && decide (md < 2)) = false
    rw [h2]
    cases f <;> rfl
  · unfold rm_C
    rw [k 36 (by decide), k 37 (by decide)]
    exact hm1.1.1
  · rw [zu_k (by decide), zu_k (by decide), zu_k (by decide), zu_k (by decide), zu_k (by decide), zu_e]
    rfl
  · rw [zu_k (by decide), zu_k (by decide), zu_k (by decide), zu_k (by decide), zu_e]
    rfl
  · rw [zu_k (by decide), zu_k (by decide), zu_k (by decide), zu_e]
    rfl
  · rw [zu_k (by decide), zu_k (by decide), zu_e]
    rfl
  · rw [zu_k (by decide), zu_e]
    rfl
  · rw [zu_e]
    rfl
  · rw [zu_k (by decide), zu_k (by decide), zu_k (by decide), zu_k (by decide), zu_k (by decide), zu_k (by decide)]
    exact hm1.2.1
  · rw [k 46 (by decide)]
    exact hm1.2.2
