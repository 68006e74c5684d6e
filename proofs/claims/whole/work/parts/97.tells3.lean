/-! handle -/
theorem cl_handle {P : sp_P} {B : List Nat} {M : zm_M} (hi : iv P B M) (x1 x2 x3 x4 : Int32) : cl (fn_mf_handle [.inr (0, 0), .inl x1, .inl x2, .inl x3, .inl x4]) (fn_mo_handle [.inr (35, 0), .inl x1, .inl x2, .inl x3, .inl x4]) M := by
  obtain ⟨hW, hc, hm⟩ := id hi
  obtain ⟨hw, hl, hb⟩ := id hW
  have h4 : (pg_han P).length ≤ 4 := hw.2.2.2.2.2.2.2.1
  rcases i_cs x1 with h | ⟨a, ha, rfl⟩
  · refine cl_same hi (v := -nI 1) ?_ ?_
    · rw [eq_mf_handle]
      simp only [nz_0, nz_1, nz_2, nz_3, nz_4, nz_5, nz_6, nz_7, nz_8, nz_9, nz_10, nz_11, nz_12, nz_13, nz_14, nz_15, nz_16, nz_17, nz_18, nz_19, nz_20, nz_21, nz_22, nz_23, nz_24, nz_25, nz_26, nz_27, nz_28, nz_29, nz_30, nz_31, nz_32, nz_33, nz_34, nz_35, nz_36, nz_37, nz_38, nz_39, nz_40, nz_41, nz_42, nz_43, nz_44, nz_45, nz_46, nz_47, nz_48, nz_49, nz_50, nz_51, nz_63, nz_64, nz_66, nz_127, nz_128, nz_246, nz_247, nz_248, nz_250, nz_251, nz_252, nz_254, nz_255, nz_256, nz_400, nz_2500]
      rw [sc_isPlacen h, Option.bind_some]
      rfl
    · rw [eq_mo_handle]
      simp only [nz_0, nz_1, nz_2, nz_3, nz_4, nz_5, nz_6, nz_7, nz_8, nz_9, nz_10, nz_11, nz_12, nz_13, nz_14, nz_15, nz_16, nz_17, nz_18, nz_19, nz_20, nz_21, nz_22, nz_23, nz_24, nz_25, nz_26, nz_27, nz_28, nz_29, nz_30, nz_31, nz_32, nz_33, nz_34, nz_35, nz_36, nz_37, nz_38, nz_39, nz_40, nz_41, nz_42, nz_43, nz_44, nz_45, nz_46, nz_47, nz_48, nz_49, nz_50, nz_51, nz_63, nz_64, nz_66, nz_127, nz_128, nz_246, nz_247, nz_248, nz_250, nz_251, nz_252, nz_254, nz_255, nz_256, nz_400, nz_2500]
      rw [so_inn h, Option.bind_some]
      rfl
  by_cases ea : a < 50
  rotate_left
  · refine cl_same hi (v := -nI 1) ?_ ?_
    · rw [eq_mf_handle]
      simp only [nz_0, nz_1, nz_2, nz_3, nz_4, nz_5, nz_6, nz_7, nz_8, nz_9, nz_10, nz_11, nz_12, nz_13, nz_14, nz_15, nz_16, nz_17, nz_18, nz_19, nz_20, nz_21, nz_22, nz_23, nz_24, nz_25, nz_26, nz_27, nz_28, nz_29, nz_30, nz_31, nz_32, nz_33, nz_34, nz_35, nz_36, nz_37, nz_38, nz_39, nz_40, nz_41, nz_42, nz_43, nz_44, nz_45, nz_46, nz_47, nz_48, nz_49, nz_50, nz_51, nz_63, nz_64, nz_66, nz_127, nz_128, nz_246, nz_247, nz_248, nz_250, nz_251, nz_252, nz_254, nz_255, nz_256, nz_400, nz_2500]
      rw [sc_isPlace ha, Option.bind_some, if_pos (pb0 (decide_eq_false ea))]
    · rw [eq_mo_handle]
      simp only [nz_0, nz_1, nz_2, nz_3, nz_4, nz_5, nz_6, nz_7, nz_8, nz_9, nz_10, nz_11, nz_12, nz_13, nz_14, nz_15, nz_16, nz_17, nz_18, nz_19, nz_20, nz_21, nz_22, nz_23, nz_24, nz_25, nz_26, nz_27, nz_28, nz_29, nz_30, nz_31, nz_32, nz_33, nz_34, nz_35, nz_36, nz_37, nz_38, nz_39, nz_40, nz_41, nz_42, nz_43, nz_44, nz_45, nz_46, nz_47, nz_48, nz_49, nz_50, nz_51, nz_63, nz_64, nz_66, nz_127, nz_128, nz_246, nz_247, nz_248, nz_250, nz_251, nz_252, nz_254, nz_255, nz_256, nz_400, nz_2500]
      rw [so_in0 ha (by omega), Option.bind_some, if_pos (pb0 (decide_eq_false ea))]
  rcases i_cs x3 with h | ⟨p, hp, rfl⟩
  · refine cl_same hi (v := -nI 1) ?_ ?_
    · rw [eq_mf_handle]
      simp only [nz_0, nz_1, nz_2, nz_3, nz_4, nz_5, nz_6, nz_7, nz_8, nz_9, nz_10, nz_11, nz_12, nz_13, nz_14, nz_15, nz_16, nz_17, nz_18, nz_19, nz_20, nz_21, nz_22, nz_23, nz_24, nz_25, nz_26, nz_27, nz_28, nz_29, nz_30, nz_31, nz_32, nz_33, nz_34, nz_35, nz_36, nz_37, nz_38, nz_39, nz_40, nz_41, nz_42, nz_43, nz_44, nz_45, nz_46, nz_47, nz_48, nz_49, nz_50, nz_51, nz_63, nz_64, nz_66, nz_127, nz_128, nz_246, nz_247, nz_248, nz_250, nz_251, nz_252, nz_254, nz_255, nz_256, nz_400, nz_2500]
      rw [sc_isPlace ha, Option.bind_some, if_neg (nb0 (decide_eq_true ea)), sc_isPlacen h, Option.bind_some]
      rfl
    · rw [eq_mo_handle]
      simp only [nz_0, nz_1, nz_2, nz_3, nz_4, nz_5, nz_6, nz_7, nz_8, nz_9, nz_10, nz_11, nz_12, nz_13, nz_14, nz_15, nz_16, nz_17, nz_18, nz_19, nz_20, nz_21, nz_22, nz_23, nz_24, nz_25, nz_26, nz_27, nz_28, nz_29, nz_30, nz_31, nz_32, nz_33, nz_34, nz_35, nz_36, nz_37, nz_38, nz_39, nz_40, nz_41, nz_42, nz_43, nz_44, nz_45, nz_46, nz_47, nz_48, nz_49, nz_50, nz_51, nz_63, nz_64, nz_66, nz_127, nz_128, nz_246, nz_247, nz_248, nz_250, nz_251, nz_252, nz_254, nz_255, nz_256, nz_400, nz_2500]
      rw [so_in0 ha (by omega), Option.bind_some, if_neg (nb0 (decide_eq_true ea)), so_inn h, Option.bind_some]
      rfl
  by_cases ep : p < 50
  rotate_left
  · refine cl_same hi (v := -nI 1) ?_ ?_
    · rw [eq_mf_handle]
      simp only [nz_0, nz_1, nz_2, nz_3, nz_4, nz_5, nz_6, nz_7, nz_8, nz_9, nz_10, nz_11, nz_12, nz_13, nz_14, nz_15, nz_16, nz_17, nz_18, nz_19, nz_20, nz_21, nz_22, nz_23, nz_24, nz_25, nz_26, nz_27, nz_28, nz_29, nz_30, nz_31, nz_32, nz_33, nz_34, nz_35, nz_36, nz_37, nz_38, nz_39, nz_40, nz_41, nz_42, nz_43, nz_44, nz_45, nz_46, nz_47, nz_48, nz_49, nz_50, nz_51, nz_63, nz_64, nz_66, nz_127, nz_128, nz_246, nz_247, nz_248, nz_250, nz_251, nz_252, nz_254, nz_255, nz_256, nz_400, nz_2500]
      rw [sc_isPlace ha, Option.bind_some, if_neg (nb0 (decide_eq_true ea)), sc_isPlace hp, Option.bind_some, if_pos (pb0 (decide_eq_false ep))]
    · rw [eq_mo_handle]
      simp only [nz_0, nz_1, nz_2, nz_3, nz_4, nz_5, nz_6, nz_7, nz_8, nz_9, nz_10, nz_11, nz_12, nz_13, nz_14, nz_15, nz_16, nz_17, nz_18, nz_19, nz_20, nz_21, nz_22, nz_23, nz_24, nz_25, nz_26, nz_27, nz_28, nz_29, nz_30, nz_31, nz_32, nz_33, nz_34, nz_35, nz_36, nz_37, nz_38, nz_39, nz_40, nz_41, nz_42, nz_43, nz_44, nz_45, nz_46, nz_47, nz_48, nz_49, nz_50, nz_51, nz_63, nz_64, nz_66, nz_127, nz_128, nz_246, nz_247, nz_248, nz_250, nz_251, nz_252, nz_254, nz_255, nz_256, nz_400, nz_2500]
      rw [so_in0 ha (by omega), Option.bind_some, if_neg (nb0 (decide_eq_true ea)), so_in0 hp (by omega), Option.bind_some, if_pos (pb0 (decide_eq_false ep))]
  have hcA : fn_mf_handle [.inr (0, 0), .inl (nI a), .inl x2, .inl (nI p), .inl x4] M = if nI a < x2 then if nI 50 < x2 then some (-nI 1, M) else (fn_mf_isClass [.inl x4] M).bind fun q3 => if q3.1 = nI 0 then some (-nI 1, q3.2) else if q3.2 5 0 14 = nI 4 then some (-nI 3, q3.2) else (fn_pr_guard [.inr (5, 0), .inl (nI a), .inl x2, .inl (nI p), .inl x4] q3.2).bind fun q4 => (fn_mf_forgetFindings [.inr (0, 0)] q4).bind fun q5 => some (q5 5 0 14, q5) else some (-nI 1, M) := by
    rw [eq_mf_handle]
    simp only [nz_0, nz_1, nz_2, nz_3, nz_4, nz_5, nz_6, nz_7, nz_8, nz_9, nz_10, nz_11, nz_12, nz_13, nz_14, nz_15, nz_16, nz_17, nz_18, nz_19, nz_20, nz_21, nz_22, nz_23, nz_24, nz_25, nz_26, nz_27, nz_28, nz_29, nz_30, nz_31, nz_32, nz_33, nz_34, nz_35, nz_36, nz_37, nz_38, nz_39, nz_40, nz_41, nz_42, nz_43, nz_44, nz_45, nz_46, nz_47, nz_48, nz_49, nz_50, nz_51, nz_63, nz_64, nz_66, nz_127, nz_128, nz_246, nz_247, nz_248, nz_250, nz_251, nz_252, nz_254, nz_255, nz_256, nz_400, nz_2500]
    rw [sc_isPlace ha, Option.bind_some, if_neg (nb0 (decide_eq_true ea)), sc_isPlace hp, Option.bind_some, if_neg (nb0 (decide_eq_true ep))]
  have hmA : ∀ Q, fn_mo_handle [.inr (35, 0), .inl (nI a), .inl x2, .inl (nI p), .inl x4] Q = (fn_mo_in [.inl x2, .inl (nI (a + 1)), .inl (nI 50)] Q).bind fun q3 => if q3.1 = nI 0 then some (-nI 1, q3.2) else (fn_mo_in [.inl x4, .inl (nI 0), .inl (nI 7)] q3.2).bind fun q4 => if q4.1 = nI 0 then some (-nI 1, q4.2) else if q4.2 35 0 6 = nI 4 then some (-nI 3, q4.2) else if q4.2 35 0 6 < nI 0 ∨ 4 ≤ (q4.2 35 0 6).toNatClampNeg then none else some (q4.2 35 0 6 + nI 1, zm_up (zm_up (zm_up (zm_up (zm_up q4.2 42 0 (q4.2 35 0 6).toNatClampNeg (nI a)) 43 0 (q4.2 35 0 6).toNatClampNeg x2) 44 0 (q4.2 35 0 6).toNatClampNeg (nI p)) 45 0 (q4.2 35 0 6).toNatClampNeg x4) 35 0 6 (q4.2 35 0 6 + nI 1)) := by
    intro Q
    rw [eq_mo_handle]
    simp only [nz_0, nz_1, nz_2, nz_3, nz_4, nz_5, nz_6, nz_7, nz_8, nz_9, nz_10, nz_11, nz_12, nz_13, nz_14, nz_15, nz_16, nz_17, nz_18, nz_19, nz_20, nz_21, nz_22, nz_23, nz_24, nz_25, nz_26, nz_27, nz_28, nz_29, nz_30, nz_31, nz_32, nz_33, nz_34, nz_35, nz_36, nz_37, nz_38, nz_39, nz_40, nz_41, nz_42, nz_43, nz_44, nz_45, nz_46, nz_47, nz_48, nz_49, nz_50, nz_51, nz_63, nz_64, nz_66, nz_127, nz_128, nz_246, nz_247, nz_248, nz_250, nz_251, nz_252, nz_254, nz_255, nz_256, nz_400, nz_2500, nI_add]
    rw [so_in0 ha (by omega), Option.bind_some, if_neg (nb0 (decide_eq_true ea)), so_in0 hp (by omega), Option.bind_some, if_neg (nb0 (decide_eq_true ep))]
    congr 1
    funext q3
    congr 1
    congr 1
    funext q4
    by_cases e : q4.2 35 0 6 < nI 0 ∨ 4 ≤ (q4.2 35 0 6).toNatClampNeg
    · simp only [if_pos e]
    · simp only [if_neg e]
  rcases i_cs x2 with h | ⟨b, hbk, rfl⟩
  · refine cl_same hi (v := -nI 1) ?_ ?_
    · rw [hcA, if_neg (ng_nl h ha)]
    · rw [hmA, so_inn (ng_lt h (by omega)), Option.bind_some]
      rfl
  by_cases eb : a < b ∧ b ≤ 50
  rotate_left
  · refine cl_same hi (v := -nI 1) ?_ ?_
    · rw [hcA]
      by_cases e1 : a < b
      · rw [if_pos (ni_lt e1 ha hbk), if_pos (ni_lt (by omega) (by omega) hbk)]
      · rw [if_neg (ni_nl (by omega) ha hbk)]
    · rw [hmA, so_in hbk (by omega) (by omega), Option.bind_some, if_pos (pb0 (by
        rw [Bool.and_eq_false_iff, decide_eq_false_iff_not, decide_eq_false_iff_not]
        omega))]
  have r2 : (decide (a + 1 ≤ b) && decide (b ≤ 50)) = true := by
    rw [decide_eq_true (show a + 1 ≤ b by omega), decide_eq_true eb.2]
    rfl
  rw [if_pos (ni_lt eb.1 ha hbk), if_neg (ni_nl eb.2 (by omega) hbk)] at hcA
  rcases i_cs x4 with h | ⟨c, hck, rfl⟩
  · refine cl_same hi (v := -nI 1) ?_ ?_
    · rw [hcA, sc_isClassn h, Option.bind_some]
      rfl
    · rw [hmA, so_in hbk (by omega) (by omega), Option.bind_some, if_neg (nb0 r2), so_inn h, Option.bind_some]
      rfl
  by_cases ec : c < 8
  rotate_left
  · refine cl_same hi (v := -nI 1) ?_ ?_
    · rw [hcA, sc_isClass hck, Option.bind_some, if_pos (pb0 (decide_eq_false ec))]
    · rw [hmA, so_in hbk (by omega) (by omega), Option.bind_some, if_neg (nb0 r2), so_in0 hck (by omega), Option.bind_some, if_pos (pb0 (decide_eq_false ec))]
  rw [sc_isClass hck, Option.bind_some, if_neg (nb0 (decide_eq_true ec))] at hcA
  have c14 : M 5 0 14 = nI (pg_han P).length := hc.1.h.1
  by_cases e : (pg_han P).length = 4
  · refine cl_same hi (v := -nI 3) ?_ ?_
    · rw [hcA, if_pos (show M 5 0 14 = nI 4 by rw [c14, e])]
    · rw [hmA, so_in hbk (by omega) (by omega), Option.bind_some, if_neg (nb0 r2), so_in0 hck (by omega), Option.bind_some, if_neg (nb0 (decide_eq_true ec)), if_pos (show M 35 0 6 = nI 4 by rw [hm.1.h.1, e])]
  have hg : fn_pr_guard [.inr (5, 0), .inl (nI a), .inl (nI b), .inl (nI p), .inl (nI c)] M = some (zm_up (zm_up (zm_up (zm_up (zm_up M 11 0 (pg_han P).length (nI a)) 12 0 (pg_han P).length (nI b)) 13 0 (pg_han P).length (nI p)) 14 0 (pg_han P).length (nI c)) 5 0 14 (nI ((pg_han P).length + 1))) := by
    rw [eq_pr_guard, c14, nI_clamp (by omega)]
    simp only [nz_0, nz_1, nz_2, nz_3, nz_4, nz_5, nz_6, nz_7, nz_8, nz_9, nz_10, nz_11, nz_12, nz_13, nz_14, nz_15, nz_16, nz_17, nz_18, nz_19, nz_20, nz_21, nz_22, nz_23, nz_24, nz_25, nz_26, nz_27, nz_28, nz_29, nz_30, nz_31, nz_32, nz_33, nz_34, nz_35, nz_36, nz_37, nz_38, nz_39, nz_40, nz_41, nz_42, nz_43, nz_44, nz_45, nz_46, nz_47, nz_48, nz_49, nz_50, nz_51, nz_63, nz_64, nz_66, nz_127, nz_128, nz_246, nz_247, nz_248, nz_250, nz_251, nz_252, nz_254, nz_255, nz_256, nz_400, nz_2500, nI_add]
    simp only [if_neg (ni_in (show (pg_han P).length < 4 by omega) (show (pg_han P).length < 2 ^ 31 by omega))]
  rw [if_neg (show ¬ M 5 0 14 = nI 4 by rw [c14]; exact ni_ne e (by omega) (by omega)), hg, Option.bind_some, sc_forget, Option.bind_some, zu_s (s' := 5) (by decide), zu_s (s' := 5) (by decide), zu_e] at hcA
  have z1 : zo_H M (zm_up (zm_up (zm_up (zm_up (zm_up (zm_up (zm_up M 11 0 (pg_han P).length (nI a)) 12 0 (pg_han P).length (nI b)) 13 0 (pg_han P).length (nI p)) 14 0 (pg_han P).length (nI c)) 5 0 14 (nI ((pg_han P).length + 1))) 18 0 8 (nI 0)) 29 0 9 (nI 0)) := by
    intro s hs
    rw [zu_s (by omega), zu_s (by omega), zu_s (by omega), zu_s (by omega), zu_s (by omega), zu_s (by omega), zu_s (by omega)]
  have hlen : (pg_han P ++ [(a, b, p, c)]).length = (pg_han P).length + 1 := by rw [List.length_append]; rfl
  have hC : ivc (pg_sup P, pg_face P, pg_own P, pg_mode P, pg_giv P, pg_arg P, pg_cod P, pg_han P ++ [(a, b, p, c)]) B (zm_up (zm_up (zm_up (zm_up (zm_up (zm_up (zm_up M 11 0 (pg_han P).length (nI a)) 12 0 (pg_han P).length (nI b)) 13 0 (pg_han P).length (nI p)) 14 0 (pg_han P).length (nI c)) 5 0 14 (nI ((pg_han P).length + 1))) 18 0 8 (nI 0)) 29 0 9 (nI 0)) := by
    refine iv_forget hc ?_ (fun s h1 h2 => by rw [zu_s (by omega), zu_s (by omega), zu_s (by omega), zu_s (by omega), zu_s (by omega)])
    obtain ⟨p1, p2, p3, p4, p5, p6, p7, p8, p9, p10, p11⟩ := hc.1
    have k : ∀ s, s < 11 → s ≠ 5 → zm_up (zm_up (zm_up (zm_up (zm_up M 11 0 (pg_han P).length (nI a)) 12 0 (pg_han P).length (nI b)) 13 0 (pg_han P).length (nI p)) 14 0 (pg_han P).length (nI c)) 5 0 14 (nI ((pg_han P).length + 1)) s = M s := by
      intro s h5 h6
      rw [zu_s h6, zu_s (by omega), zu_s (by omega), zu_s (by omega), zu_s (by omega)]
    have k5 : ∀ j, j ≠ 14 → zm_up (zm_up (zm_up (zm_up (zm_up M 11 0 (pg_han P).length (nI a)) 12 0 (pg_han P).length (nI b)) 13 0 (pg_han P).length (nI p)) 14 0 (pg_han P).length (nI c)) 5 0 14 (nI ((pg_han P).length + 1)) 5 0 j = M 5 0 j := by
      intro j hj
      rw [zu_k hj, zu_s (by decide), zu_s (by decide), zu_s (by decide), zu_s (by decide)]
    refine ⟨?_, ?_, ?_, ?_, ?_, ?_, ?_, ?_, ?_, ?_, ?_⟩
    · unfold rc_C
      rw [k 2 (by decide) (by decide), k 3 (by decide) (by decide), k 4 (by decide) (by decide)]
      exact p1
    · rw [k5 0 (by decide)]; exact p2
    · rw [k5 1 (by decide)]; exact p3
    · rw [k5 2 (by decide)]; exact p4
    · rw [k5 4 (by decide)]; exact p5
    · rw [k 6 (by decide) (by decide)]; exact p6
    · rw [k5 9 (by decide)]; exact p7
    · rw [k 7 (by decide) (by decide), k 8 (by decide) (by decide), k 9 (by decide) (by decide)]; exact p8
    · rw [k 10 (by decide) (by decide)]; exact p9
    · rw [zu_e]
      show _ = nI (pg_han P ++ [(a, b, p, c)]).length
      rw [hlen]
    · intro h hh
      have hh : h < (pg_han P ++ [(a, b, p, c)]).length := hh
      rw [hlen] at hh
      have hd : pg_hd (pg_sup P, pg_face P, pg_own P, pg_mode P, pg_giv P, pg_arg P, pg_cod P, pg_han P ++ [(a, b, p, c)]) h = if h = (pg_han P).length then (a, b, p, c) else pg_hd P h := gd_sn
      rw [hd, zu_s (s' := 11) (by decide), zu_s (s' := 11) (by decide), zu_s (s' := 11) (by decide), zu_s (s' := 11) (by decide), zu_s (s' := 12) (by decide), zu_s (s' := 12) (by decide), zu_s (s' := 12) (by decide), zu_s (s' := 13) (by decide), zu_s (s' := 13) (by decide), zu_s (s' := 14) (by decide)]
      by_cases eh : h = (pg_han P).length
      · rw [if_pos eh, eh, zu_e, zu_e, zu_e, zu_e]
        exact ⟨rfl, rfl, rfl, rfl⟩
      · rw [if_neg eh]
        simp only [zu_k eh]
        exact p11 h (by omega)
  generalize zm_up (zm_up (zm_up (zm_up (zm_up (zm_up (zm_up M 11 0 (pg_han P).length (nI a)) 12 0 (pg_han P).length (nI b)) 13 0 (pg_han P).length (nI p)) 14 0 (pg_han P).length (nI c)) 5 0 14 (nI ((pg_han P).length + 1))) 18 0 8 (nI 0)) 29 0 9 (nI 0) = M1 at hcA z1 hC
  have hm1 := z1.m hm
  have hmo : fn_mo_handle [.inr (35, 0), .inl (nI a), .inl (nI b), .inl (nI p), .inl (nI c)] M1 = some (nI ((pg_han P).length + 1), zm_up (zm_up (zm_up (zm_up (zm_up M1 42 0 (pg_han P).length (nI a)) 43 0 (pg_han P).length (nI b)) 44 0 (pg_han P).length (nI p)) 45 0 (pg_han P).length (nI c)) 35 0 6 (nI ((pg_han P).length + 1))) := by
    rw [hmA, so_in hbk (by omega) (by omega), Option.bind_some, if_neg (nb0 r2), so_in0 hck (by omega), Option.bind_some, if_neg (nb0 (decide_eq_true ec)), if_neg (show ¬ M1 35 0 6 = nI 4 by rw [hm1.1.h.1]; exact ni_ne e (by omega) (by omega)), if_neg (show ¬ (M1 35 0 6 < nI 0 ∨ 4 ≤ (M1 35 0 6).toNatClampNeg) by rw [hm1.1.h.1, nI_clamp (by omega)]; exact ni_in (by omega) (by omega))]
    dsimp only
    rw [hm1.1.h.1, nI_clamp (by omega), nI_add]
  have k : ∀ s, (s < 42 ∨ 45 < s) → s ≠ 35 → zm_up (zm_up (zm_up (zm_up (zm_up M1 42 0 (pg_han P).length (nI a)) 43 0 (pg_han P).length (nI b)) 44 0 (pg_han P).length (nI p)) 45 0 (pg_han P).length (nI c)) 35 0 6 (nI ((pg_han P).length + 1)) s = M1 s := by
    intro s h5 h6
    rw [zu_s h6, zu_s (by omega), zu_s (by omega), zu_s (by omega), zu_s (by omega)]
  have k5 : ∀ j, j ≠ 6 → zm_up (zm_up (zm_up (zm_up (zm_up M1 42 0 (pg_han P).length (nI a)) 43 0 (pg_han P).length (nI b)) 44 0 (pg_han P).length (nI p)) 45 0 (pg_han P).length (nI c)) 35 0 6 (nI ((pg_han P).length + 1)) 35 0 j = M1 35 0 j := by
    intro j hj
    rw [zu_k hj, zu_s (by decide), zu_s (by decide), zu_s (by decide), zu_s (by decide)]
  obtain ⟨w1, w2, w3, w4, w5, w6, w7, w8, w9, w10⟩ := hw
  obtain ⟨p1, p2, p3, p4, p5, p6, p7, p8, p9, p10⟩ := hm1.1
  refine cl_mk hcA z1 hmo (fun s hs => k s (by omega) (by omega)) (P' := (pg_sup P, pg_face P, pg_own P, pg_mode P, pg_giv P, pg_arg P, pg_cod P, pg_han P ++ [(a, b, p, c)])) (B' := B) ⟨⟨w1, w2, w3, w4, w5, w6, w7, ?_, ?_, w10⟩, hl, hb⟩ hC ⟨⟨?_, ?_, ?_, ?_, ?_, ?_, ?_, ?_, ?_, ?_⟩, ?_, ?_⟩
  · show (pg_han P ++ [(a, b, p, c)]).length ≤ 4
    omega
  · intro u (hu : u ∈ pg_han P ++ [(a, b, p, c)])
    rcases List.mem_append.mp hu with hu | hu
    · exact w9 u hu
    · rw [List.mem_singleton] at hu
      rw [hu]
      exact ⟨ea, eb.1, eb.2, ep, ec⟩
  · unfold rm_C
    rw [k 36 (by decide) (by decide), k 37 (by decide) (by decide)]
    exact p1
  · rw [k5 2 (by decide)]; exact p2
  · rw [k5 3 (by decide)]; exact p3
  · rw [k5 8 (by decide)]; exact p4
  · rw [k5 4 (by decide)]; exact p5
  · rw [k 38 (by decide) (by decide)]; exact p6
  · rw [k5 5 (by decide)]; exact p7
  · rw [k 39 (by decide) (by decide), k 40 (by decide) (by decide), k 41 (by decide) (by decide)]; exact p8
  · rw [zu_e]
    show _ = nI (pg_han P ++ [(a, b, p, c)]).length
    rw [hlen]
  · intro h hh
    have hh : h < (pg_han P ++ [(a, b, p, c)]).length := hh
    rw [hlen] at hh
    have hd : pg_hd (pg_sup P, pg_face P, pg_own P, pg_mode P, pg_giv P, pg_arg P, pg_cod P, pg_han P ++ [(a, b, p, c)]) h = if h = (pg_han P).length then (a, b, p, c) else pg_hd P h := gd_sn
    rw [hd, zu_s (s' := 42) (by decide), zu_s (s' := 42) (by decide), zu_s (s' := 42) (by decide), zu_s (s' := 42) (by decide), zu_s (s' := 43) (by decide), zu_s (s' := 43) (by decide), zu_s (s' := 43) (by decide), zu_s (s' := 44) (by decide), zu_s (s' := 44) (by decide), zu_s (s' := 45) (by decide)]
    by_cases eh : h = (pg_han P).length
    · rw [if_pos eh, eh, zu_e, zu_e, zu_e, zu_e]
      exact ⟨rfl, rfl, rfl, rfl⟩
    · rw [if_neg eh]
      simp only [zu_k eh]
      exact p10 h (by omega)
  · rw [k5 7 (by decide)]; exact hm1.2.1
  · rw [k 46 (by decide) (by decide)]; exact hm1.2.2
