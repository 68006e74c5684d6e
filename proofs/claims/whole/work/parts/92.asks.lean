/-! code, count, check, make -/
theorem cl_code {P : sp_P} {B : List Nat} {M : zm_M} (hi : iv P B M) (x y : Int32) : cl (fn_mf_code [.inr (0, 0), .inl x, .inl y]) (fn_mo_code [.inr (35, 0), .inl x, .inl y]) M := by
  obtain ⟨⟨hw, hl, hb⟩, hc, hm⟩ := id hi
  have h50 := hw.n
  have c9 : M 5 0 9 = nI (pg_n P) := hc.1.2.2.2.2.2.2.1
  have bad : (y < nI 0 ∨ nI 3 < y) → cl (fn_mf_code [.inr (0, 0), .inl x, .inl y]) (fn_mo_code [.inr (35, 0), .inl x, .inl y]) M := by
    intro hy
    refine cl_same hi (v := -nI 1) ?_ ?_
    · rw [eq_mf_code]
      simp only [nz_0, nz_1, nz_2, nz_3, nz_4, nz_5, nz_6, nz_7, nz_8, nz_9, nz_10, nz_11, nz_12, nz_13, nz_14, nz_15, nz_16, nz_17, nz_18, nz_19, nz_20, nz_21, nz_22, nz_23, nz_24, nz_25, nz_26, nz_27, nz_28, nz_29, nz_30, nz_31, nz_32, nz_33, nz_34, nz_35, nz_36, nz_37, nz_38, nz_39, nz_40, nz_41, nz_42, nz_43, nz_44, nz_45, nz_46, nz_47, nz_48, nz_49, nz_50, nz_51, nz_63, nz_64, nz_66, nz_127, nz_128, nz_246, nz_247, nz_248, nz_250, nz_251, nz_252, nz_254, nz_255, nz_256, nz_400, nz_2500]
      by_cases y0 : y < nI 0
      · rw [if_pos y0]
      · rw [if_neg y0, if_pos (hy.resolve_left y0)]
    · rw [eq_mo_code]
      simp only [nz_0, nz_1, nz_2, nz_3, nz_4, nz_5, nz_6, nz_7, nz_8, nz_9, nz_10, nz_11, nz_12, nz_13, nz_14, nz_15, nz_16, nz_17, nz_18, nz_19, nz_20, nz_21, nz_22, nz_23, nz_24, nz_25, nz_26, nz_27, nz_28, nz_29, nz_30, nz_31, nz_32, nz_33, nz_34, nz_35, nz_36, nz_37, nz_38, nz_39, nz_40, nz_41, nz_42, nz_43, nz_44, nz_45, nz_46, nz_47, nz_48, nz_49, nz_50, nz_51, nz_63, nz_64, nz_66, nz_127, nz_128, nz_246, nz_247, nz_248, nz_250, nz_251, nz_252, nz_254, nz_255, nz_256, nz_400, nz_2500]
      rw [eq_mo_in]
      by_cases y0 : y < nI 0
      · rw [if_pos y0, Option.bind_some]
        rfl
      · rw [if_neg y0, if_pos (hy.resolve_left y0), Option.bind_some]
        rfl
  rcases i_cs y with h | ⟨b, hbk, rfl⟩
  · exact bad (Or.inl h)
  by_cases e2 : b ≤ 3
  rotate_left
  · exact bad (Or.inr (ni_lt (by omega) (by omega) hbk))
  have r2 : (decide (0 ≤ b) && decide (b ≤ 3)) = true := by rw [decide_eq_true (Nat.zero_le b), decide_eq_true (by omega)]; rfl
  rcases i_cs x with h | ⟨k, hk, rfl⟩
  · refine cl_same hi (v := -nI 2) ?_ ?_
    · rw [eq_mf_code]
      simp only [nz_0, nz_1, nz_2, nz_3, nz_4, nz_5, nz_6, nz_7, nz_8, nz_9, nz_10, nz_11, nz_12, nz_13, nz_14, nz_15, nz_16, nz_17, nz_18, nz_19, nz_20, nz_21, nz_22, nz_23, nz_24, nz_25, nz_26, nz_27, nz_28, nz_29, nz_30, nz_31, nz_32, nz_33, nz_34, nz_35, nz_36, nz_37, nz_38, nz_39, nz_40, nz_41, nz_42, nz_43, nz_44, nz_45, nz_46, nz_47, nz_48, nz_49, nz_50, nz_51, nz_63, nz_64, nz_66, nz_127, nz_128, nz_246, nz_247, nz_248, nz_250, nz_251, nz_252, nz_254, nz_255, nz_256, nz_400, nz_2500]
      rw [if_neg (ni_nl (by omega) hbk (by omega)), if_neg (ni_nl e2 (by omega) hbk), if_pos h]
    · rw [eq_mo_code]
      simp only [nz_0, nz_1, nz_2, nz_3, nz_4, nz_5, nz_6, nz_7, nz_8, nz_9, nz_10, nz_11, nz_12, nz_13, nz_14, nz_15, nz_16, nz_17, nz_18, nz_19, nz_20, nz_21, nz_22, nz_23, nz_24, nz_25, nz_26, nz_27, nz_28, nz_29, nz_30, nz_31, nz_32, nz_33, nz_34, nz_35, nz_36, nz_37, nz_38, nz_39, nz_40, nz_41, nz_42, nz_43, nz_44, nz_45, nz_46, nz_47, nz_48, nz_49, nz_50, nz_51, nz_63, nz_64, nz_66, nz_127, nz_128, nz_246, nz_247, nz_248, nz_250, nz_251, nz_252, nz_254, nz_255, nz_256, nz_400, nz_2500]
      rw [so_in hbk (by omega) (by omega), Option.bind_some]
      simp only [bI_0]
      rw [if_neg (by rw [r2]; decide), so_inn h, Option.bind_some]
      rfl
  by_cases e : k < pg_n P
  rotate_left
  · refine cl_same hi (v := -nI 2) ?_ ?_
    · rw [eq_mf_code]
      simp only [nz_0, nz_1, nz_2, nz_3, nz_4, nz_5, nz_6, nz_7, nz_8, nz_9, nz_10, nz_11, nz_12, nz_13, nz_14, nz_15, nz_16, nz_17, nz_18, nz_19, nz_20, nz_21, nz_22, nz_23, nz_24, nz_25, nz_26, nz_27, nz_28, nz_29, nz_30, nz_31, nz_32, nz_33, nz_34, nz_35, nz_36, nz_37, nz_38, nz_39, nz_40, nz_41, nz_42, nz_43, nz_44, nz_45, nz_46, nz_47, nz_48, nz_49, nz_50, nz_51, nz_63, nz_64, nz_66, nz_127, nz_128, nz_246, nz_247, nz_248, nz_250, nz_251, nz_252, nz_254, nz_255, nz_256, nz_400, nz_2500]
      rw [if_neg (ni_nl (by omega) hbk (by omega)), if_neg (ni_nl e2 (by omega) hbk), if_neg (ni_nl (by omega) hk (by omega)), c9, if_neg (ni_nl (by omega) hk (by omega))]
    · rw [eq_mo_code]
      simp only [nz_0, nz_1, nz_2, nz_3, nz_4, nz_5, nz_6, nz_7, nz_8, nz_9, nz_10, nz_11, nz_12, nz_13, nz_14, nz_15, nz_16, nz_17, nz_18, nz_19, nz_20, nz_21, nz_22, nz_23, nz_24, nz_25, nz_26, nz_27, nz_28, nz_29, nz_30, nz_31, nz_32, nz_33, nz_34, nz_35, nz_36, nz_37, nz_38, nz_39, nz_40, nz_41, nz_42, nz_43, nz_44, nz_45, nz_46, nz_47, nz_48, nz_49, nz_50, nz_51, nz_63, nz_64, nz_66, nz_127, nz_128, nz_246, nz_247, nz_248, nz_250, nz_251, nz_252, nz_254, nz_255, nz_256, nz_400, nz_2500]
      rw [so_in hbk (by omega) (by omega), Option.bind_some]
      simp only [bI_0]
      rw [if_neg (by rw [r2]; decide), hm.1.n, so_in1b hk (by omega), Option.bind_some]
      simp only [bI_0]
      rw [if_pos (decide_eq_false e)]
  have k50 : k < 50 := by omega
  obtain ⟨i1, i2, i3⟩ := hc.1.i k e
  obtain ⟨j1, j2, j3⟩ := hm.1.i k e
  have i4 : M 10 0 k = nI (sp_off P k) := hc.1.2.2.2.2.2.2.2.2.1 k (by omega)
  refine cl_same hi (v := if b = 0 then nI (pg_op P k) else if b = 1 then nI (pg_a P k) else if b = 2 then nI (pg_b P k) else nI (sp_off P k)) ?_ ?_
  · rw [eq_mf_code]
    simp only [nz_0, nz_1, nz_2, nz_3, nz_4, nz_5, nz_6, nz_7, nz_8, nz_9, nz_10, nz_11, nz_12, nz_13, nz_14, nz_15, nz_16, nz_17, nz_18, nz_19, nz_20, nz_21, nz_22, nz_23, nz_24, nz_25, nz_26, nz_27, nz_28, nz_29, nz_30, nz_31, nz_32, nz_33, nz_34, nz_35, nz_36, nz_37, nz_38, nz_39, nz_40, nz_41, nz_42, nz_43, nz_44, nz_45, nz_46, nz_47, nz_48, nz_49, nz_50, nz_51, nz_63, nz_64, nz_66, nz_127, nz_128, nz_246, nz_247, nz_248, nz_250, nz_251, nz_252, nz_254, nz_255, nz_256, nz_400, nz_2500]
    rw [if_neg (ni_nl (by omega) hbk (by omega)), if_neg (ni_nl e2 (by omega) hbk), if_neg (ni_nl (by omega) hk (by omega)), c9, if_pos (ni_lt e hk (by omega)), nI_clamp hk, if_neg (ni_in (show k < 51 by omega) hk)]
    simp only [if_neg (ni_in k50 hk)]
    rw [i1, i2, i3, i4]
    by_cases b0 : b = 0
    · rw [if_pos (by rw [b0]), if_pos b0]
    · rw [if_neg (ni_ne b0 hbk (by omega)), if_neg b0]
      by_cases b1 : b = 1
      · rw [if_pos (by rw [b1]), if_pos b1]
      · rw [if_neg (ni_ne b1 hbk (by omega)), if_neg b1]
        by_cases b2 : b = 2
        · rw [if_pos (by rw [b2]), if_pos b2]
        · rw [if_neg (ni_ne b2 hbk (by omega)), if_neg b2]
  · rw [eq_mo_code]
    simp only [nz_0, nz_1, nz_2, nz_3, nz_4, nz_5, nz_6, nz_7, nz_8, nz_9, nz_10, nz_11, nz_12, nz_13, nz_14, nz_15, nz_16, nz_17, nz_18, nz_19, nz_20, nz_21, nz_22, nz_23, nz_24, nz_25, nz_26, nz_27, nz_28, nz_29, nz_30, nz_31, nz_32, nz_33, nz_34, nz_35, nz_36, nz_37, nz_38, nz_39, nz_40, nz_41, nz_42, nz_43, nz_44, nz_45, nz_46, nz_47, nz_48, nz_49, nz_50, nz_51, nz_63, nz_64, nz_66, nz_127, nz_128, nz_246, nz_247, nz_248, nz_250, nz_251, nz_252, nz_254, nz_255, nz_256, nz_400, nz_2500]
    rw [so_in hbk (by omega) (by omega), Option.bind_some]
    simp only [bI_0]
    rw [if_neg (by rw [r2]; decide), hm.1.n, so_in1b hk (by omega), Option.bind_some]
    simp only [bI_0]
    rw [if_neg (by rw [decide_eq_true e]; decide), nI_clamp hk]
    simp only [if_neg (ni_in k50 hk)]
    rw [j1, j2, j3, so_offset hw hm.1 (by omega), Option.bind_some]
    by_cases b0 : b = 0
    · rw [if_pos (by rw [b0]), if_pos b0]
    · rw [if_neg (ni_ne b0 hbk (by omega)), if_neg b0]
      by_cases b1 : b = 1
      · rw [if_pos (by rw [b1]), if_pos b1]
      · rw [if_neg (ni_ne b1 hbk (by omega)), if_neg b1]
        by_cases b2 : b = 2
        · rw [if_pos (by rw [b2]), if_pos b2]
        · rw [if_neg (ni_ne b2 hbk (by omega)), if_neg b2]
theorem zo_Q.H {M M' : zm_M} (h : zo_Q M M') : zo_H M M' := fun s hs => funext fun i => funext fun k => h s i k (by omega) (by omega) (by omega) (by omega)
theorem zo_Q.c {P : sp_P} {B : List Nat} {M M' : zm_M} (hn : pg_n P ≤ 50) (h : zo_Q M M') (hf : fr_ok M') (hk : re_kn P B M') (hc : ivc P B M) : ivc P B M' := by
  obtain ⟨h1, h2, h3, h4, h5⟩ := hc
  have k : ∀ s, s < 23 → M' s = M s := fun s hs => funext fun i => funext fun k => h s i k (by omega) (by omega) (by omega) (by omega)
  refine ⟨h1.kept fun s hs => k s (by omega), h2.kept (by rw [k 15 (by decide)]) (by rw [k 16 (by decide)]), ?_, Or.inr hk, hf⟩
  rw [k 18 (by decide)]
  rcases h3 with q | ⟨b, q⟩
  · exact Or.inl q
  · exact Or.inr ⟨b, q.kept (k 18 (by decide)) (k 20 (by decide)) (fun s p q1 q2 q3 => funext fun j => h s p j (by omega) (by omega) (by omega) (by omega)) hn⟩
/-- both sides read -/
theorem iv_read {P : sp_P} {B : List Nat} {M : zm_M} (hi : iv P B M) : ∃ M1, fn_re_isSound [.inr (29, 0)] M = some (bI (sp_rows P B).isSome, M1) ∧ zo_H M M1 ∧ ivc P B M1 ∧ re_kn P B M1 ∧ ivm P B M1 := by
  obtain ⟨⟨hw, hl, hb⟩, hc, hm⟩ := id hi
  obtain ⟨M1, a1, a2, a3, a4⟩ := sc_isSound hw hc.1 hc.2.1 hl hb hc.2.2.2.2 hc.2.2.2.1
  exact ⟨M1, a1, a2.H, a2.c hw.n a3 a4 hc, a4, a2.H.m hm⟩
theorem cl_count {P : sp_P} {B : List Nat} {M : zm_M} (hi : iv P B M) (x : Int32) : cl (fn_mf_count [.inr (0, 0), .inl x]) (fn_mo_count [.inr (35, 0), .inl x]) M := by
  obtain ⟨⟨hw, hl, hb⟩, hc, hm⟩ := id hi
  have h50 := hw.n
  have c9 : M 5 0 9 = nI (pg_n P) := hc.1.2.2.2.2.2.2.1
  have c4 : M 5 0 4 = nI (pg_arg P).length := hc.1.2.2.2.2.1
  have m4 : M 35 0 4 = nI (pg_arg P).length := hm.1.2.2.2.2.1
  by_cases e4 : x = nI 4
  · subst e4
    obtain ⟨M1, a1, a2, a3, a4, a5⟩ := iv_read hi
    obtain ⟨M2, b1, b2, b3⟩ := sm_readRows hw a5.1 a5.2 hl hb
    have hcl : fn_mf_count [.inr (0, 0), .inl (nI 4)] M = some ((match sp_rows P B with
        | none => -nI 5
        | some R => nI R.length), M1) := by
      rw [eq_mf_count]
      simp only [nz_0, nz_1, nz_2, nz_3, nz_4, nz_5, nz_6, nz_7, nz_8, nz_9, nz_10, nz_11, nz_12, nz_13, nz_14, nz_15, nz_16, nz_17, nz_18, nz_19, nz_20, nz_21, nz_22, nz_23, nz_24, nz_25, nz_26, nz_27, nz_28, nz_29, nz_30, nz_31, nz_32, nz_33, nz_34, nz_35, nz_36, nz_37, nz_38, nz_39, nz_40, nz_41, nz_42, nz_43, nz_44, nz_45, nz_46, nz_47, nz_48, nz_49, nz_50, nz_51, nz_63, nz_64, nz_66, nz_127, nz_128, nz_246, nz_247, nz_248, nz_250, nz_251, nz_252, nz_254, nz_255, nz_256, nz_400, nz_2500]
      rw [if_neg (show ¬ nI 4 = nI 0 by decide), if_neg (show ¬ nI 4 = nI 1 by decide), if_neg (show ¬ nI 4 = nI 2 by decide), if_neg (show ¬ nI 4 = nI 3 by decide), if_pos trivial, a1, Option.bind_some]
      simp only [bI_0]
      cases hr : sp_rows P B with
      | none => rfl
      | some R =>
        rw [if_neg (by rw [Option.isSome_some]; decide), (a4.2.2 R hr).2.1]
    have hmo : fn_mo_count [.inr (35, 0), .inl (nI 4)] M1 = some ((match sp_rows P B with
        | none => -nI 5
        | some R => nI R.length), M2) := by
      rw [eq_mo_count]
      simp only [nz_0, nz_1, nz_2, nz_3, nz_4, nz_5, nz_6, nz_7, nz_8, nz_9, nz_10, nz_11, nz_12, nz_13, nz_14, nz_15, nz_16, nz_17, nz_18, nz_19, nz_20, nz_21, nz_22, nz_23, nz_24, nz_25, nz_26, nz_27, nz_28, nz_29, nz_30, nz_31, nz_32, nz_33, nz_34, nz_35, nz_36, nz_37, nz_38, nz_39, nz_40, nz_41, nz_42, nz_43, nz_44, nz_45, nz_46, nz_47, nz_48, nz_49, nz_50, nz_51, nz_63, nz_64, nz_66, nz_127, nz_128, nz_246, nz_247, nz_248, nz_250, nz_251, nz_252, nz_254, nz_255, nz_256, nz_400, nz_2500]
      rw [if_pos trivial, b1, Option.bind_some]
      simp only [bI_0]
      cases hr : sp_rows P B with
      | none => rfl
      | some R =>
        rw [if_neg (by rw [Option.isSome_some]; decide), (b3 R hr).2.1]
    exact cl_mk hcl a2 hmo b2.O ⟨hw, hl, hb⟩ a3 ⟨b2.P a5.1, b2.B a5.2⟩
  by_cases e0 : x = nI 0
  · refine cl_same hi (v := nI (pg_n P)) ?_ ?_
    · rw [eq_mf_count]
      simp only [nz_0, nz_1, nz_2, nz_3, nz_4, nz_5, nz_6, nz_7, nz_8, nz_9, nz_10, nz_11, nz_12, nz_13, nz_14, nz_15, nz_16, nz_17, nz_18, nz_19, nz_20, nz_21, nz_22, nz_23, nz_24, nz_25, nz_26, nz_27, nz_28, nz_29, nz_30, nz_31, nz_32, nz_33, nz_34, nz_35, nz_36, nz_37, nz_38, nz_39, nz_40, nz_41, nz_42, nz_43, nz_44, nz_45, nz_46, nz_47, nz_48, nz_49, nz_50, nz_51, nz_63, nz_64, nz_66, nz_127, nz_128, nz_246, nz_247, nz_248, nz_250, nz_251, nz_252, nz_254, nz_255, nz_256, nz_400, nz_2500]
      rw [if_pos e0, c9]
    · rw [eq_mo_count]
      simp only [nz_0, nz_1, nz_2, nz_3, nz_4, nz_5, nz_6, nz_7, nz_8, nz_9, nz_10, nz_11, nz_12, nz_13, nz_14, nz_15, nz_16, nz_17, nz_18, nz_19, nz_20, nz_21, nz_22, nz_23, nz_24, nz_25, nz_26, nz_27, nz_28, nz_29, nz_30, nz_31, nz_32, nz_33, nz_34, nz_35, nz_36, nz_37, nz_38, nz_39, nz_40, nz_41, nz_42, nz_43, nz_44, nz_45, nz_46, nz_47, nz_48, nz_49, nz_50, nz_51, nz_63, nz_64, nz_66, nz_127, nz_128, nz_246, nz_247, nz_248, nz_250, nz_251, nz_252, nz_254, nz_255, nz_256, nz_400, nz_2500]
      rw [if_neg e4, if_pos e0, hm.1.n]
  by_cases e1 : x = nI 1
  · refine cl_same hi (v := nI (pg_han P).length) ?_ ?_
    · rw [eq_mf_count]
      simp only [nz_0, nz_1, nz_2, nz_3, nz_4, nz_5, nz_6, nz_7, nz_8, nz_9, nz_10, nz_11, nz_12, nz_13, nz_14, nz_15, nz_16, nz_17, nz_18, nz_19, nz_20, nz_21, nz_22, nz_23, nz_24, nz_25, nz_26, nz_27, nz_28, nz_29, nz_30, nz_31, nz_32, nz_33, nz_34, nz_35, nz_36, nz_37, nz_38, nz_39, nz_40, nz_41, nz_42, nz_43, nz_44, nz_45, nz_46, nz_47, nz_48, nz_49, nz_50, nz_51, nz_63, nz_64, nz_66, nz_127, nz_128, nz_246, nz_247, nz_248, nz_250, nz_251, nz_252, nz_254, nz_255, nz_256, nz_400, nz_2500]
      rw [if_neg e0, if_pos e1, hc.1.h.1]
    · rw [eq_mo_count]
      simp only [nz_0, nz_1, nz_2, nz_3, nz_4, nz_5, nz_6, nz_7, nz_8, nz_9, nz_10, nz_11, nz_12, nz_13, nz_14, nz_15, nz_16, nz_17, nz_18, nz_19, nz_20, nz_21, nz_22, nz_23, nz_24, nz_25, nz_26, nz_27, nz_28, nz_29, nz_30, nz_31, nz_32, nz_33, nz_34, nz_35, nz_36, nz_37, nz_38, nz_39, nz_40, nz_41, nz_42, nz_43, nz_44, nz_45, nz_46, nz_47, nz_48, nz_49, nz_50, nz_51, nz_63, nz_64, nz_66, nz_127, nz_128, nz_246, nz_247, nz_248, nz_250, nz_251, nz_252, nz_254, nz_255, nz_256, nz_400, nz_2500]
      rw [if_neg e4, if_neg e0, if_pos e1, hm.1.h.1]
  by_cases e2 : x = nI 2
  · refine cl_same hi (v := nI (pg_arg P).length) ?_ ?_
    · rw [eq_mf_count]
      simp only [nz_0, nz_1, nz_2, nz_3, nz_4, nz_5, nz_6, nz_7, nz_8, nz_9, nz_10, nz_11, nz_12, nz_13, nz_14, nz_15, nz_16, nz_17, nz_18, nz_19, nz_20, nz_21, nz_22, nz_23, nz_24, nz_25, nz_26, nz_27, nz_28, nz_29, nz_30, nz_31, nz_32, nz_33, nz_34, nz_35, nz_36, nz_37, nz_38, nz_39, nz_40, nz_41, nz_42, nz_43, nz_44, nz_45, nz_46, nz_47, nz_48, nz_49, nz_50, nz_51, nz_63, nz_64, nz_66, nz_127, nz_128, nz_246, nz_247, nz_248, nz_250, nz_251, nz_252, nz_254, nz_255, nz_256, nz_400, nz_2500]
      rw [if_neg e0, if_neg e1, if_pos e2, c4]
    · rw [eq_mo_count]
      simp only [nz_0, nz_1, nz_2, nz_3, nz_4, nz_5, nz_6, nz_7, nz_8, nz_9, nz_10, nz_11, nz_12, nz_13, nz_14, nz_15, nz_16, nz_17, nz_18, nz_19, nz_20, nz_21, nz_22, nz_23, nz_24, nz_25, nz_26, nz_27, nz_28, nz_29, nz_30, nz_31, nz_32, nz_33, nz_34, nz_35, nz_36, nz_37, nz_38, nz_39, nz_40, nz_41, nz_42, nz_43, nz_44, nz_45, nz_46, nz_47, nz_48, nz_49, nz_50, nz_51, nz_63, nz_64, nz_66, nz_127, nz_128, nz_246, nz_247, nz_248, nz_250, nz_251, nz_252, nz_254, nz_255, nz_256, nz_400, nz_2500]
      rw [if_neg e4, if_neg e0, if_neg e1, if_pos e2, m4]
  by_cases e3 : x = nI 3
  · refine cl_same hi (v := nI (sp_off P (pg_n P))) ?_ ?_
    · rw [eq_mf_count]
      simp only [nz_0, nz_1, nz_2, nz_3, nz_4, nz_5, nz_6, nz_7, nz_8, nz_9, nz_10, nz_11, nz_12, nz_13, nz_14, nz_15, nz_16, nz_17, nz_18, nz_19, nz_20, nz_21, nz_22, nz_23, nz_24, nz_25, nz_26, nz_27, nz_28, nz_29, nz_30, nz_31, nz_32, nz_33, nz_34, nz_35, nz_36, nz_37, nz_38, nz_39, nz_40, nz_41, nz_42, nz_43, nz_44, nz_45, nz_46, nz_47, nz_48, nz_49, nz_50, nz_51, nz_63, nz_64, nz_66, nz_127, nz_128, nz_246, nz_247, nz_248, nz_250, nz_251, nz_252, nz_254, nz_255, nz_256, nz_400, nz_2500]
      rw [if_neg e0, if_neg e1, if_neg e2, if_pos e3, c9, nI_clamp (by omega), if_neg (ni_in (show pg_n P < 51 by omega) (by omega)), hc.1.2.2.2.2.2.2.2.2.1 _ (Nat.le_refl _)]
    · rw [eq_mo_count]
      simp only [nz_0, nz_1, nz_2, nz_3, nz_4, nz_5, nz_6, nz_7, nz_8, nz_9, nz_10, nz_11, nz_12, nz_13, nz_14, nz_15, nz_16, nz_17, nz_18, nz_19, nz_20, nz_21, nz_22, nz_23, nz_24, nz_25, nz_26, nz_27, nz_28, nz_29, nz_30, nz_31, nz_32, nz_33, nz_34, nz_35, nz_36, nz_37, nz_38, nz_39, nz_40, nz_41, nz_42, nz_43, nz_44, nz_45, nz_46, nz_47, nz_48, nz_49, nz_50, nz_51, nz_63, nz_64, nz_66, nz_127, nz_128, nz_246, nz_247, nz_248, nz_250, nz_251, nz_252, nz_254, nz_255, nz_256, nz_400, nz_2500]
      rw [if_neg e4, if_neg e0, if_neg e1, if_neg e2, if_pos e3, hm.1.n, so_offset hw hm.1 (Nat.le_refl _), Option.bind_some]
  refine cl_same hi (v := -nI 1) ?_ ?_
  · rw [eq_mf_count]
    simp only [nz_0, nz_1, nz_2, nz_3, nz_4, nz_5, nz_6, nz_7, nz_8, nz_9, nz_10, nz_11, nz_12, nz_13, nz_14, nz_15, nz_16, nz_17, nz_18, nz_19, nz_20, nz_21, nz_22, nz_23, nz_24, nz_25, nz_26, nz_27, nz_28, nz_29, nz_30, nz_31, nz_32, nz_33, nz_34, nz_35, nz_36, nz_37, nz_38, nz_39, nz_40, nz_41, nz_42, nz_43, nz_44, nz_45, nz_46, nz_47, nz_48, nz_49, nz_50, nz_51, nz_63, nz_64, nz_66, nz_127, nz_128, nz_246, nz_247, nz_248, nz_250, nz_251, nz_252, nz_254, nz_255, nz_256, nz_400, nz_2500]
    rw [if_neg e0, if_neg e1, if_neg e2, if_neg e3, if_neg e4]
  · rw [eq_mo_count]
    simp only [nz_0, nz_1, nz_2, nz_3, nz_4, nz_5, nz_6, nz_7, nz_8, nz_9, nz_10, nz_11, nz_12, nz_13, nz_14, nz_15, nz_16, nz_17, nz_18, nz_19, nz_20, nz_21, nz_22, nz_23, nz_24, nz_25, nz_26, nz_27, nz_28, nz_29, nz_30, nz_31, nz_32, nz_33, nz_34, nz_35, nz_36, nz_37, nz_38, nz_39, nz_40, nz_41, nz_42, nz_43, nz_44, nz_45, nz_46, nz_47, nz_48, nz_49, nz_50, nz_51, nz_63, nz_64, nz_66, nz_127, nz_128, nz_246, nz_247, nz_248, nz_250, nz_251, nz_252, nz_254, nz_255, nz_256, nz_400, nz_2500]
    rw [if_neg e4, if_neg e0, if_neg e1, if_neg e2, if_neg e3]
theorem zo_c.H {M M' : zm_M} (h : zo_c M M') : zo_H M M' := fun s hs => funext fun i => funext fun k => h s i k (by omega)
theorem zo_c.c {P : sp_P} {B : List Nat} {M M' : zm_M} (hn : pg_n P ≤ 50) (h : zo_c M M') (hc : ivc P B M) : ivc P B M' := by
  obtain ⟨h1, h2, h3, h4, h5⟩ := hc
  have k : ∀ s, s < 23 → M' s = M s := fun s hs => funext fun i => funext fun k => h s i k (by omega)
  refine ⟨h.P h1, h2.kept (by rw [k 15 (by decide)]) (by rw [k 16 (by decide)]), ?_, ?_, ?_⟩
  · rw [k 18 (by decide)]
    rcases h3 with q | ⟨b, q⟩
    · exact Or.inl q
    · exact Or.inr ⟨b, q.kept (k 18 (by decide)) (k 20 (by decide)) (fun s p q1 q2 q3 => funext fun j => h s p j (by omega)) hn⟩
  · rw [h 29 0 9 (by omega)]
    rcases h4 with q | ⟨q1, q2, q3⟩
    · exact Or.inl q
    · exact Or.inr ⟨by rw [h 29 0 9 (by omega)]; exact q1, by rw [h 29 0 10 (by omega)]; exact q2, fun R hR => h.R (q3 R hR)⟩
  · intro r hr
    obtain ⟨F, hF⟩ := h5 r hr
    exact ⟨F, hF.kept (funext fun k => h 23 _ k (by omega)) (funext fun k => h 24 _ k (by omega)) (funext fun k => h 25 _ k (by omega))⟩
theorem cl_check {P : sp_P} {B : List Nat} {M : zm_M} (hi : iv P B M) : cl (fn_mf_check [.inr (0, 0)]) (fn_mo_check [.inr (35, 0)]) M := by
  obtain ⟨⟨hw, hl, hb⟩, hc, hm⟩ := id hi
  have h50 := hw.n
  have c9 : M 5 0 9 = nI (pg_n P) := hc.1.2.2.2.2.2.2.1
  have key : ∃ M1, fn_mf_check [.inr (0, 0)] M = some (sp_check P B, M1) ∧ zo_H M M1 ∧ ivc P B M1 := by
    rw [eq_mf_check, c9]
    simp only [nz_0, nz_1, nz_2, nz_3, nz_4, nz_5, nz_6, nz_7, nz_8, nz_9, nz_10, nz_11, nz_12, nz_13, nz_14, nz_15, nz_16, nz_17, nz_18, nz_19, nz_20, nz_21, nz_22, nz_23, nz_24, nz_25, nz_26, nz_27, nz_28, nz_29, nz_30, nz_31, nz_32, nz_33, nz_34, nz_35, nz_36, nz_37, nz_38, nz_39, nz_40, nz_41, nz_42, nz_43, nz_44, nz_45, nz_46, nz_47, nz_48, nz_49, nz_50, nz_51, nz_63, nz_64, nz_66, nz_127, nz_128, nz_246, nz_247, nz_248, nz_250, nz_251, nz_252, nz_254, nz_255, nz_256, nz_400, nz_2500]
    unfold sp_check
    by_cases e : pg_n P = 0
    · rw [if_pos (by rw [e]), if_pos e]
      exact ⟨M, rfl, zo_H.rf, hc⟩
    · rw [if_neg (ni_ne e (by omega) (by omega)), if_neg e]
      obtain ⟨M1, a1, a2, a3, a4, a5⟩ := iv_read hi
      rw [a1, Option.bind_some]
      simp only [bI_0]
      cases hr : sp_rows P B with
      | none =>
        rw [if_pos (by rfl)]
        exact ⟨M1, rfl, a2, a3⟩
      | some R =>
        obtain ⟨M2, b1, b2⟩ := sc_firstBad hw a3.1 (a4.2.2 R hr)
        rw [if_neg (by rw [Option.isSome_some]; decide), b1, Option.bind_some]
        exact ⟨M2, rfl, a2.tr b2.H, b2.c h50 a3⟩
  obtain ⟨M1, a1, a2, a3⟩ := key
  have hm1 := a2.m hm
  obtain ⟨M2, b1, b2⟩ := sm_check hw hm1.1 hm1.2 hl hb
  exact cl_mk a1 a2 b1 b2.O ⟨hw, hl, hb⟩ a3 ⟨b2.P hm1.1, b2.B hm1.2⟩
