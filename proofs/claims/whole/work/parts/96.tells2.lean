/-! argument, handle -/
def sp_gA (t : Nat) : Bool := (decide (1 ≤ t) && decide (t ≤ 4)) || (sp_kd t == 7 && decide (sp_pt t < 8))
theorem gA_wf {t : Nat} (h : sp_gA t = true) : wf_A t ∧ t < 2 ^ 20 := by
  unfold sp_gA at h
  rw [Bool.or_eq_true, Bool.and_eq_true, Bool.and_eq_true, decide_eq_true_eq, decide_eq_true_eq, decide_eq_true_eq, beq_iff_eq] at h
  rcases h with h | h
  · exact ⟨Or.inl h, by omega⟩
  · refine ⟨Or.inr h, ?_⟩
    have := h.2
    unfold sp_pt at this
    omega
theorem sc_arg_n {x : Int32} (h : x < nI 0) (M : zm_M) : fn_mf_argument [.inr (0, 0), .inl x] M = some (-nI 1, M) := by
  rw [eq_mf_argument, show ∀ lo Q, rr_mf_argument 1 0 lo [] Q = rr_mf_argument (0 + 1) 0 lo [] Q from fun _ _ => rfl, eq_mf_argument_0]
  simp only [nz_0, nz_1, nz_2, nz_3, nz_4, nz_5, nz_6, nz_7, nz_8, nz_9, nz_10, nz_11, nz_12, nz_13, nz_14, nz_15, nz_16, nz_17, nz_18, nz_19, nz_20, nz_21, nz_22, nz_23, nz_24, nz_25, nz_26, nz_27, nz_28, nz_29, nz_30, nz_31, nz_32, nz_33, nz_34, nz_35, nz_36, nz_37, nz_38, nz_39, nz_40, nz_41, nz_42, nz_43, nz_44, nz_45, nz_46, nz_47, nz_48, nz_49, nz_50, nz_51, nz_63, nz_64, nz_66, nz_127, nz_128, nz_246, nz_247, nz_248, nz_250, nz_251, nz_252, nz_254, nz_255, nz_256, nz_400, nz_2500]
  rw [if_pos (ng_lt h (by decide)), eq_mf_argument_14, eq_mf_argument_15]
  simp only [nz_0, nz_1, nz_2, nz_3, nz_4, nz_5, nz_6, nz_7, nz_8, nz_9, nz_10, nz_11, nz_12, nz_13, nz_14, nz_15, nz_16, nz_17, nz_18, nz_19, nz_20, nz_21, nz_22, nz_23, nz_24, nz_25, nz_26, nz_27, nz_28, nz_29, nz_30, nz_31, nz_32, nz_33, nz_34, nz_35, nz_36, nz_37, nz_38, nz_39, nz_40, nz_41, nz_42, nz_43, nz_44, nz_45, nz_46, nz_47, nz_48, nz_49, nz_50, nz_51, nz_63, nz_64, nz_66, nz_127, nz_128, nz_246, nz_247, nz_248, nz_250, nz_251, nz_252, nz_254, nz_255, nz_256, nz_400, nz_2500]
  rw [if_pos h, eq_mf_argument_43, eq_mf_argument_44]
  simp only [nz_0, nz_1, nz_2, nz_3, nz_4, nz_5, nz_6, nz_7, nz_8, nz_9, nz_10, nz_11, nz_12, nz_13, nz_14, nz_15, nz_16, nz_17, nz_18, nz_19, nz_20, nz_21, nz_22, nz_23, nz_24, nz_25, nz_26, nz_27, nz_28, nz_29, nz_30, nz_31, nz_32, nz_33, nz_34, nz_35, nz_36, nz_37, nz_38, nz_39, nz_40, nz_41, nz_42, nz_43, nz_44, nz_45, nz_46, nz_47, nz_48, nz_49, nz_50, nz_51, nz_63, nz_64, nz_66, nz_127, nz_128, nz_246, nz_247, nz_248, nz_250, nz_251, nz_252, nz_254, nz_255, nz_256, nz_400, nz_2500]
  rw [if_pos trivial, if_pos trivial]
theorem sc_arg {t : Nat} (ht : t < 2 ^ 31) (M : zm_M) : ∃ v2 v3, fn_mf_argument [.inr (0, 0), .inl (nI t)] M = if sp_gA t then rr_mf_argument (0 + 1) 55 [some (.inr (0, 0)), some (.inl (nI t)), some (.inl v2), some (.inl v3)] [] M else some (-nI 1, M) := by
  have hpt : sp_pt t < 2 ^ 31 := by unfold sp_pt; omega
  have h15 : ∀ b : Bool, rr_mf_argument (0 + 1) 15 [some (.inr (0, 0)), some (.inl (nI t)), none, none] [.inl (bI b)] M = if b || (sp_kd t == 7 && decide (sp_pt t < 8)) then rr_mf_argument (0 + 1) 55 [some (.inr (0, 0)), some (.inl (nI t)), some (.inl (bI b)), some (.inl (bI (sp_kd t == 7 && decide (sp_pt t < 8))))] [] M else some (-nI 1, M) := by
    intro b
    have h44 : ∀ c : Bool, rr_mf_argument (0 + 1) 44 [some (.inr (0, 0)), some (.inl (nI t)), some (.inl (bI b)), none] [.inl (bI c)] M = if b || c then rr_mf_argument (0 + 1) 55 [some (.inr (0, 0)), some (.inl (nI t)), some (.inl (bI b)), some (.inl (bI c))] [] M else some (-nI 1, M) := by
      intro c
      rw [eq_mf_argument_44]
      simp only [nz_0, nz_1, nz_2, nz_3, nz_4, nz_5, nz_6, nz_7, nz_8, nz_9, nz_10, nz_11, nz_12, nz_13, nz_14, nz_15, nz_16, nz_17, nz_18, nz_19, nz_20, nz_21, nz_22, nz_23, nz_24, nz_25, nz_26, nz_27, nz_28, nz_29, nz_30, nz_31, nz_32, nz_33, nz_34, nz_35, nz_36, nz_37, nz_38, nz_39, nz_40, nz_41, nz_42, nz_43, nz_44, nz_45, nz_46, nz_47, nz_48, nz_49, nz_50, nz_51, nz_63, nz_64, nz_66, nz_127, nz_128, nz_246, nz_247, nz_248, nz_250, nz_251, nz_252, nz_254, nz_255, nz_256, nz_400, nz_2500, bI_0]
      cases b <;> cases c <;> rfl
    rw [eq_mf_argument_15]
    simp only [nz_0, nz_1, nz_2, nz_3, nz_4, nz_5, nz_6, nz_7, nz_8, nz_9, nz_10, nz_11, nz_12, nz_13, nz_14, nz_15, nz_16, nz_17, nz_18, nz_19, nz_20, nz_21, nz_22, nz_23, nz_24, nz_25, nz_26, nz_27, nz_28, nz_29, nz_30, nz_31, nz_32, nz_33, nz_34, nz_35, nz_36, nz_37, nz_38, nz_39, nz_40, nz_41, nz_42, nz_43, nz_44, nz_45, nz_46, nz_47, nz_48, nz_49, nz_50, nz_51, nz_63, nz_64, nz_66, nz_127, nz_128, nz_246, nz_247, nz_248, nz_250, nz_251, nz_252, nz_254, nz_255, nz_256, nz_400, nz_2500]
    rw [if_neg (ni_nl (by omega) ht (by omega)), sc_kind ht]
    simp only [Option.bind_some]
    have hkd : sp_kd t < 16 := Nat.mod_lt _ (by decide)
    by_cases e : sp_kd t = 7
    · rw [if_pos (by rw [e]), sc_part ht, Option.bind_some, sc_isClass hpt]
      simp only [Option.bind_some, bI_0]
      rw [beq_iff_eq.mpr e, Bool.true_and]
      by_cases e2 : sp_pt t < 8
      · rw [if_neg (by rw [decide_eq_true e2]; decide), decide_eq_true e2]
        exact h44 true
      · rw [if_pos (decide_eq_false e2), decide_eq_false e2, eq_mf_argument_43, nz_0]
        exact h44 false
    · rw [if_neg (ni_ne e (by omega) (by omega)), beq_eq_false_iff_ne.mpr e, Bool.false_and, eq_mf_argument_43, nz_0]
      exact h44 false
  rw [eq_mf_argument, show ∀ lo Q, rr_mf_argument 1 0 lo [] Q = rr_mf_argument (0 + 1) 0 lo [] Q from fun _ _ => rfl, eq_mf_argument_0]
  simp only [nz_0, nz_1, nz_2, nz_3, nz_4, nz_5, nz_6, nz_7, nz_8, nz_9, nz_10, nz_11, nz_12, nz_13, nz_14, nz_15, nz_16, nz_17, nz_18, nz_19, nz_20, nz_21, nz_22, nz_23, nz_24, nz_25, nz_26, nz_27, nz_28, nz_29, nz_30, nz_31, nz_32, nz_33, nz_34, nz_35, nz_36, nz_37, nz_38, nz_39, nz_40, nz_41, nz_42, nz_43, nz_44, nz_45, nz_46, nz_47, nz_48, nz_49, nz_50, nz_51, nz_63, nz_64, nz_66, nz_127, nz_128, nz_246, nz_247, nz_248, nz_250, nz_251, nz_252, nz_254, nz_255, nz_256, nz_400, nz_2500]
  unfold sp_gA
  by_cases e1 : t < 1
  · rw [if_pos (ni_lt e1 ht (by omega)), eq_mf_argument_14, nz_0, decide_eq_false (show ¬ 1 ≤ t by omega), Bool.false_and]
    exact ⟨_, _, h15 false⟩
  · rw [if_neg (ni_nl (by omega) ht (by omega)), decide_eq_true (show 1 ≤ t by omega), Bool.true_and]
    by_cases e2 : 4 < t
    · rw [if_pos (ni_lt e2 (by omega) ht), eq_mf_argument_14, nz_0, decide_eq_false (show ¬ t ≤ 4 by omega)]
      exact ⟨_, _, h15 false⟩
    · rw [if_neg (ni_nl (by omega) (by omega) ht), decide_eq_true (show t ≤ 4 by omega)]
      exact ⟨_, _, h15 true⟩
theorem so_arg_n {x : Int32} (h : x < nI 0) (M : zm_M) : fn_mo_argument [.inr (35, 0), .inl x] M = some (-nI 1, M) := by
  rw [eq_mo_argument]
  simp only [nz_0, nz_1, nz_2, nz_3, nz_4, nz_5, nz_6, nz_7, nz_8, nz_9, nz_10, nz_11, nz_12, nz_13, nz_14, nz_15, nz_16, nz_17, nz_18, nz_19, nz_20, nz_21, nz_22, nz_23, nz_24, nz_25, nz_26, nz_27, nz_28, nz_29, nz_30, nz_31, nz_32, nz_33, nz_34, nz_35, nz_36, nz_37, nz_38, nz_39, nz_40, nz_41, nz_42, nz_43, nz_44, nz_45, nz_46, nz_47, nz_48, nz_49, nz_50, nz_51, nz_63, nz_64, nz_66, nz_127, nz_128, nz_246, nz_247, nz_248, nz_250, nz_251, nz_252, nz_254, nz_255, nz_256, nz_400, nz_2500]
  rw [so_inn (ng_lt h (by decide)), Option.bind_some, if_pos rfl, eq_mo_kind, Option.bind_some]
  simp only [nz_0, nz_1, nz_2, nz_3, nz_4, nz_5, nz_6, nz_7, nz_8, nz_9, nz_10, nz_11, nz_12, nz_13, nz_14, nz_15, nz_16, nz_17, nz_18, nz_19, nz_20, nz_21, nz_22, nz_23, nz_24, nz_25, nz_26, nz_27, nz_28, nz_29, nz_30, nz_31, nz_32, nz_33, nz_34, nz_35, nz_36, nz_37, nz_38, nz_39, nz_40, nz_41, nz_42, nz_43, nz_44, nz_45, nz_46, nz_47, nz_48, nz_49, nz_50, nz_51, nz_63, nz_64, nz_66, nz_127, nz_128, nz_246, nz_247, nz_248, nz_250, nz_251, nz_252, nz_254, nz_255, nz_256, nz_400, nz_2500]
  have hs : x >>> (nI 4 &&& nI 31) < nI 0 := by
    have h1 := pk_shr x (nI 4 &&& nI 31) 4 (by decide)
    have h2 := ng_i h
    rw [Int32.lt_iff_toInt_lt, h1, nI_toInt (by decide)]
    rw [Int.shiftRight_eq_div_pow]
    omega
  by_cases e : x &&& nI 15 = nI 7
  · rw [if_pos e, so_inn hs, Option.bind_some]
    rfl
  · rw [if_neg e]
theorem so_arg {t : Nat} (ht : t < 2 ^ 31) (M : zm_M) : fn_mo_argument [.inr (35, 0), .inl (nI t)] M = if sp_gA t then (if M 35 0 4 = nI 4 then some (-nI 3, M) else if M 35 0 4 < nI 0 ∨ 4 ≤ (M 35 0 4).toNatClampNeg then none else some (M 35 0 4 + nI 1, zm_up (zm_up M 38 0 (M 35 0 4).toNatClampNeg (nI t)) 35 0 4 (M 35 0 4 + nI 1))) else some (-nI 1, M) := by
  have hpt : sp_pt t < 2 ^ 31 := by unfold sp_pt; omega
  have hkd : sp_kd t < 16 := Nat.mod_lt _ (by decide)
  rw [eq_mo_argument]
  simp only [nz_0, nz_1, nz_2, nz_3, nz_4, nz_5, nz_6, nz_7, nz_8, nz_9, nz_10, nz_11, nz_12, nz_13, nz_14, nz_15, nz_16, nz_17, nz_18, nz_19, nz_20, nz_21, nz_22, nz_23, nz_24, nz_25, nz_26, nz_27, nz_28, nz_29, nz_30, nz_31, nz_32, nz_33, nz_34, nz_35, nz_36, nz_37, nz_38, nz_39, nz_40, nz_41, nz_42, nz_43, nz_44, nz_45, nz_46, nz_47, nz_48, nz_49, nz_50, nz_51, nz_63, nz_64, nz_66, nz_127, nz_128, nz_246, nz_247, nz_248, nz_250, nz_251, nz_252, nz_254, nz_255, nz_256, nz_400, nz_2500]
  rw [so_in ht (by omega) (by omega), Option.bind_some, pk_shrN ht _ 4 (by decide)]
  have hp : t / 2 ^ 4 = sp_pt t := rfl
  rw [hp, so_kind ht, Option.bind_some]
  unfold sp_gA
  by_cases e1 : 1 ≤ t ∧ t ≤ 4
  · rw [decide_eq_true e1.1, decide_eq_true e1.2, Bool.true_and, if_neg (nb0 rfl)]
    rfl
  · have hz : (decide (1 ≤ t) && decide (t ≤ 4)) = false := by
      rw [Bool.and_eq_false_iff, decide_eq_false_iff_not, decide_eq_false_iff_not]
      omega
    rw [hz, if_pos (pb0 rfl), Bool.false_or]
    by_cases e : sp_kd t = 7
    · rw [if_pos (by rw [e]), so_in0 hpt (by omega), Option.bind_some, beq_iff_eq.mpr e, Bool.true_and]
      by_cases e2 : sp_pt t < 8
      · rw [if_neg (nb0 (decide_eq_true e2)), decide_eq_true e2]
        rfl
      · rw [if_pos (pb0 (decide_eq_false e2)), decide_eq_false e2]
        rfl
    · rw [if_neg (ni_ne e (by omega) (by omega)), beq_eq_false_iff_ne.mpr e, Bool.false_and]
      rfl
theorem cl_argument {P : sp_P} {B : List Nat} {M : zm_M} (hi : iv P B M) (x : Int32) : cl (fn_mf_argument [.inr (0, 0), .inl x]) (fn_mo_argument [.inr (35, 0), .inl x]) M := by
  obtain ⟨hW, hc, hm⟩ := id hi
  obtain ⟨hw, hl, hb⟩ := id hW
  have ha4 : (pg_arg P).length ≤ 4 := hw.2.2.2.1
  have c4 : M 5 0 4 = nI (pg_arg P).length := hc.1.2.2.2.2.1
  have m4 : M 35 0 4 = nI (pg_arg P).length := hm.1.2.2.2.2.1
  rcases i_cs x with h | ⟨t, ht, rfl⟩
  · exact cl_same hi (v := -nI 1) (sc_arg_n h M) (so_arg_n h M)
  obtain ⟨v2, v3, hca⟩ := sc_arg ht M
  rcases Bool.eq_false_or_eq_true (sp_gA t) with g | g
  rotate_left
  · refine cl_same hi (v := -nI 1) ?_ ?_
    · rw [hca, if_neg (by rw [g]; decide)]
    · rw [so_arg ht, if_neg (by rw [g]; decide)]
  rw [if_pos g, eq_mf_argument_55, c4] at hca
  simp only [nz_0, nz_1, nz_2, nz_3, nz_4, nz_5, nz_6, nz_7, nz_8, nz_9, nz_10, nz_11, nz_12, nz_13, nz_14, nz_15, nz_16, nz_17, nz_18, nz_19, nz_20, nz_21, nz_22, nz_23, nz_24, nz_25, nz_26, nz_27, nz_28, nz_29, nz_30, nz_31, nz_32, nz_33, nz_34, nz_35, nz_36, nz_37, nz_38, nz_39, nz_40, nz_41, nz_42, nz_43, nz_44, nz_45, nz_46, nz_47, nz_48, nz_49, nz_50, nz_51, nz_63, nz_64, nz_66, nz_127, nz_128, nz_246, nz_247, nz_248, nz_250, nz_251, nz_252, nz_254, nz_255, nz_256, nz_400, nz_2500, nI_add] at hca
  by_cases e : (pg_arg P).length = 4
  · rw [if_pos (by rw [e])] at hca
    refine cl_same hi (v := -nI 3) hca ?_
    rw [so_arg ht, if_pos g, m4, if_pos (by rw [e])]
  obtain ⟨hwA, htl⟩ := gA_wf g
  rw [if_neg (ni_ne e (by omega) (by omega)), nI_clamp (by omega), if_neg (ni_in (show (pg_arg P).length < 4 by omega) (by omega)), sc_forget, Option.bind_some] at hca
  have hv : zm_up (zm_up (zm_up (zm_up M 6 0 (pg_arg P).length (nI t)) 5 0 4 (nI ((pg_arg P).length + 1))) 18 0 8 (nI 0)) 29 0 9 (nI 0) 5 0 4 = nI ((pg_arg P).length + 1) := by
    rw [zu_s (by decide), zu_s (by decide), zu_e]
  rw [hv] at hca
  have z1 : zo_H M (zm_up (zm_up (zm_up (zm_up M 6 0 (pg_arg P).length (nI t)) 5 0 4 (nI ((pg_arg P).length + 1))) 18 0 8 (nI 0)) 29 0 9 (nI 0)) := by
    intro s hs
    rw [zu_s (by omega), zu_s (by omega), zu_s (by omega), zu_s (by omega)]
  have hC : ivc (pg_sup P, pg_face P, pg_own P, pg_mode P, pg_giv P, pg_arg P ++ [t], pg_cod P, pg_han P) B (zm_up (zm_up (zm_up (zm_up M 6 0 (pg_arg P).length (nI t)) 5 0 4 (nI ((pg_arg P).length + 1))) 18 0 8 (nI 0)) 29 0 9 (nI 0)) := by
    refine iv_forget hc ?_ (fun s h1 h2 => by rw [zu_s (by omega), zu_s (by omega)])
    obtain ⟨p1, p2, p3, p4, p5, p6, p7, p8, p9, p10, p11⟩ := hc.1
    have k : ∀ s, s ≠ 5 → s ≠ 6 → zm_up (zm_up M 6 0 (pg_arg P).length (nI t)) 5 0 4 (nI ((pg_arg P).length + 1)) s = M s := by
      intro s h5 h6
      rw [zu_s h5, zu_s h6]
    have k5 : ∀ j, j ≠ 4 → zm_up (zm_up M 6 0 (pg_arg P).length (nI t)) 5 0 4 (nI ((pg_arg P).length + 1)) 5 0 j = M 5 0 j := by
      intro j hj
      rw [zu_k hj, zu_s (by decide)]
    refine ⟨?_, ?_, ?_, ?_, ?_, ?_, ?_, ?_, ?_, ?_, ?_⟩
    · unfold rc_C
      rw [k 2 (by decide) (by decide), k 3 (by decide) (by decide), k 4 (by decide) (by decide)]
      exact p1
    · rw [k5 0 (by decide)]; exact p2
    · rw [k5 1 (by decide)]; exact p3
    · rw [k5 2 (by decide)]; exact p4
    · rw [zu_e]
      show nI ((pg_arg P).length + 1) = nI (pg_arg P ++ [t]).length
      rw [List.length_append]
      rfl
    · intro i hi
      have hi : i < (pg_arg P ++ [t]).length := hi
      rw [List.length_append, List.length_singleton] at hi
      show _ = nI ((pg_arg P ++ [t]).getD i 0)
      rw [gd_sn, zu_s (by decide)]
      by_cases ei : i = (pg_arg P).length
      · rw [if_pos ei, ei, zu_e]
      · rw [if_neg ei, zu_k ei]
        exact p6 i (by omega)
    · rw [k5 9 (by decide)]; exact p7
    · rw [k 7 (by decide) (by decide), k 8 (by decide) (by decide), k 9 (by decide) (by decide)]; exact p8
    · rw [k 10 (by decide) (by decide)]; exact p9
    · rw [k5 14 (by decide)]; exact p10
    · rw [k 11 (by decide) (by decide), k 12 (by decide) (by decide), k 13 (by decide) (by decide), k 14 (by decide) (by decide)]; exact p11
  generalize zm_up (zm_up (zm_up (zm_up M 6 0 (pg_arg P).length (nI t)) 5 0 4 (nI ((pg_arg P).length + 1))) 18 0 8 (nI 0)) 29 0 9 (nI 0) = M1 at hca z1 hC hv
  have hm1 := z1.m hm
  have m41 : M1 35 0 4 = nI (pg_arg P).length := hm1.1.2.2.2.2.1
  have hmo : fn_mo_argument [.inr (35, 0), .inl (nI t)] M1 = some (nI ((pg_arg P).length + 1), zm_up (zm_up M1 38 0 (pg_arg P).length (nI t)) 35 0 4 (nI ((pg_arg P).length + 1))) := by
    rw [so_arg ht, if_pos g, m41, if_neg (ni_ne e (by omega) (by omega)), nI_clamp (by omega), if_neg (ni_in (show (pg_arg P).length < 4 by omega) (by omega)), nI_add]
  have k : ∀ s, s ≠ 35 → s ≠ 38 → zm_up (zm_up M1 38 0 (pg_arg P).length (nI t)) 35 0 4 (nI ((pg_arg P).length + 1)) s = M1 s := by
    intro s h5 h6
    rw [zu_s h5, zu_s h6]
  have k5 : ∀ j, j ≠ 4 → zm_up (zm_up M1 38 0 (pg_arg P).length (nI t)) 35 0 4 (nI ((pg_arg P).length + 1)) 35 0 j = M1 35 0 j := by
    intro j hj
    rw [zu_k hj, zu_s (by decide)]
  obtain ⟨w1, w2, w3, w4, w5, w6, w7, w8, w9, w10⟩ := hw
  obtain ⟨p1, p2, p3, p4, p5, p6, p7, p8, p9⟩ := hm1.1
  refine cl_mk hca z1 hmo (fun s hs => k s (by omega) (by omega)) (P' := (pg_sup P, pg_face P, pg_own P, pg_mode P, pg_giv P, pg_arg P ++ [t], pg_cod P, pg_han P)) (B' := B) ⟨⟨w1, w2, w3, ?_, ?_, w6, w7, w8, w9, w10⟩, hl, hb⟩ hC ⟨⟨?_, ?_, ?_, ?_, ?_, ?_, ?_, ?_, ?_⟩, ?_, ?_⟩
  · show (pg_arg P ++ [t]).length ≤ 4
    rw [List.length_append, List.length_singleton]
    omega
  · intro u (hu : u ∈ pg_arg P ++ [t])
    rcases List.mem_append.mp hu with hu | hu
    · exact w5 u hu
    · rw [List.mem_singleton] at hu
      rw [hu]
      exact hwA
  · unfold rm_C
    rw [k 36 (by decide) (by decide), k 37 (by decide) (by decide)]
    exact p1
  · rw [k5 2 (by decide)]; exact p2
  · rw [k5 3 (by decide)]; exact p3
  · rw [k5 8 (by decide)]; exact p4
  · rw [zu_e]
    show nI ((pg_arg P).length + 1) = nI (pg_arg P ++ [t]).length
    rw [List.length_append]
    rfl
  · intro i hi
    have hi : i < (pg_arg P ++ [t]).length := hi
    rw [List.length_append, List.length_singleton] at hi
    show _ = nI ((pg_arg P ++ [t]).getD i 0)
    rw [gd_sn, zu_s (by decide)]
    by_cases ei : i = (pg_arg P).length
    · rw [if_pos ei, ei, zu_e]
    · rw [if_neg ei, zu_k ei]
      exact p6 i (by omega)
  · rw [k5 5 (by decide)]; exact p7
  · rw [k 39 (by decide) (by decide), k 40 (by decide) (by decide), k 41 (by decide) (by decide)]; exact p8
  · rw [k5 6 (by decide), k 42 (by decide) (by decide), k 43 (by decide) (by decide), k 44 (by decide) (by decide), k 45 (by decide) (by decide)]; exact p9
  · rw [k5 7 (by decide)]; exact hm1.2.1
  · rw [k 46 (by decide) (by decide)]; exact hm1.2.2
