/-! the reference writes a row -/
theorem so_w158 {X : List Nat} {v1 v2 v3 : Int32} : ∀ (k i n : Nat) (M : zm_M) (B : List Nat), (i + k = X.length ∨ (k = 0 ∧ X.length ≤ i)) → i ≤ 10 → k < n → rm_L M X → rm_W M B → B.length + (sp_tbs (X.drop i)).length ≤ 2500 → ∃ M', rr_mo_writeRow n 158 [some (.inr (35, 0)), some (.inl v1), some (.inl v2), some (.inl v3), some (.inl (nI i))] [] M = some M' ∧ zo_n 40 61 M M' ∧ rm_W M' (B ++ sp_tbs (X.drop i)) := by
  intro k
  induction k with
  | zero =>
    intro i n M B hk hi hn hX hB hl
    obtain ⟨n, rfl⟩ : ∃ m, n = m + 1 := ⟨n - 1, by omega⟩
    have hXl := hX.2.1
    rw [eq_mo_writeRow_158, hX.1, if_neg (ni_nl (by omega) (by omega) (by omega)), List.drop_eq_nil_of_le (by omega), eq_mo_writeRow_273]
    refine ⟨M, rfl, zo_n.rf, ?_⟩
    rw [show sp_tbs [] = [] from rfl, List.append_nil]
    exact hB
  | succ k ih =>
    intro i n M B hk hi hn hX hB hl
    obtain ⟨n, rfl⟩ : ∃ m, n = m + 1 := ⟨n - 1, by omega⟩
    have hXl := hX.2.1
    have hd := dr_c (show i < X.length by omega)
    rw [hd, sp_tbs_c, List.length_append] at hl
    rw [eq_mo_writeRow_158, hX.1, if_pos (ni_lt (by omega) (by omega) (by omega)), nI_clamp (by omega)]
    simp only [nz_0, nz_1, nz_2, nz_3, nz_4, nz_5, nz_6, nz_7, nz_8, nz_9, nz_10, nz_11, nz_12, nz_13, nz_14, nz_15, nz_16, nz_17, nz_18, nz_19, nz_20, nz_21, nz_22, nz_23, nz_24, nz_25, nz_26, nz_27, nz_28, nz_29, nz_30, nz_31, nz_32, nz_33, nz_34, nz_35, nz_36, nz_37, nz_38, nz_39, nz_40, nz_41, nz_42, nz_43, nz_44, nz_45, nz_46, nz_47, nz_48, nz_49, nz_50, nz_51, nz_63, nz_64, nz_66, nz_127, nz_128, nz_246, nz_247, nz_248, nz_250, nz_251, nz_252, nz_254, nz_255, nz_256, nz_400, nz_2500, nI_add]
    rw [if_neg (ni_in (show i < 12 by omega) (by omega)), hX.2.2.1 i (by omega)]
    obtain ⟨M1, a1, a2, a3⟩ := sm_writeType hB (by omega) (wt_gd hX.2.2.2 i)
    rw [a1, Option.bind_some]
    obtain ⟨M2, b1, b2, b3⟩ := ih (i + 1) n M1 (B ++ sp_tb (X.getD i 0)) (by omega) (by omega) (by omega) (a2.L (by omega) (by omega) (by omega) hX) a3 (by rw [List.length_append]; omega)
    refine ⟨M2, b1, a2.tr b2, ?_⟩
    rw [hd, sp_tbs_c, ← List.append_assoc]
    exact b3
theorem so_w247 {F : sp_F} {v1 v2 v3 : Int32} (hw : wf_F F) : ∀ (k i n : Nat) (M : zm_M) (B : List Nat), i + k = F.2.1.length → k < n → rm_F M F → rm_W M B → B.length + (sp_tbs (F.2.1.reverse.drop i)).length ≤ 2500 → ∃ M', rr_mo_writeRow n 247 [some (.inr (35, 0)), some (.inl v1), some (.inl v2), some (.inl v3), some (.inl (nI i))] [] M = some M' ∧ zo_n 40 61 M M' ∧ rm_W M' (B ++ sp_tbs (F.2.1.reverse.drop i)) := by
  intro k
  induction k with
  | zero =>
    intro i n M B hk hn hF hB hl
    obtain ⟨n, rfl⟩ : ∃ m, n = m + 1 := ⟨n - 1, by omega⟩
    have hFl := rm_len hF
    have hd : M 35 0 20 = nI F.2.1.length := hF.1.2.2.1
    rw [eq_mo_writeRow_247, hd, if_neg (ni_nl (by omega) (by omega) (by omega)), List.drop_eq_nil_of_le (by simp; omega), eq_mo_writeRow_273]
    refine ⟨M, rfl, zo_n.rf, ?_⟩
    rw [show sp_tbs [] = [] from rfl, List.append_nil]
    exact hB
  | succ k ih =>
    intro i n M B hk hn hF hB hl
    obtain ⟨n, rfl⟩ : ∃ m, n = m + 1 := ⟨n - 1, by omega⟩
    have hFl := rm_len hF
    have hd : M 35 0 20 = nI F.2.1.length := hF.1.2.2.1
    have hwr : ∀ t ∈ F.2.1.reverse, sp_wt t := by simpa using hw.2
    have hM : M 48 0 i = nI (F.2.1.reverse.getD i 0) := by
      rw [gd_rev (by omega)]
      exact hF.1.2.2.2.1 i (by omega)
    have hdr := dr_c (show i < F.2.1.reverse.length by simp; omega)
    rw [hdr, sp_tbs_c, List.length_append] at hl
    rw [eq_mo_writeRow_247, hd, if_pos (ni_lt (by omega) (by omega) (by omega)), nI_clamp (by omega)]
    simp only [nz_0, nz_1, nz_2, nz_3, nz_4, nz_5, nz_6, nz_7, nz_8, nz_9, nz_10, nz_11, nz_12, nz_13, nz_14, nz_15, nz_16, nz_17, nz_18, nz_19, nz_20, nz_21, nz_22, nz_23, nz_24, nz_25, nz_26, nz_27, nz_28, nz_29, nz_30, nz_31, nz_32, nz_33, nz_34, nz_35, nz_36, nz_37, nz_38, nz_39, nz_40, nz_41, nz_42, nz_43, nz_44, nz_45, nz_46, nz_47, nz_48, nz_49, nz_50, nz_51, nz_63, nz_64, nz_66, nz_127, nz_128, nz_246, nz_247, nz_248, nz_250, nz_251, nz_252, nz_254, nz_255, nz_256, nz_400, nz_2500, nI_add]
    rw [if_neg (ni_in (show i < 9 by omega) (by omega)), hM]
    obtain ⟨M1, a1, a2, a3⟩ := sm_writeType hB (by omega) (wt_gd hwr i)
    rw [a1, Option.bind_some]
    obtain ⟨M2, b1, b2, b3⟩ := ih (i + 1) n M1 (B ++ sp_tb (F.2.1.reverse.getD i 0)) (by omega) (by omega) (a2.F (by omega) (by omega) hF) a3 (by rw [List.length_append]; omega)
    refine ⟨M2, b1, a2.tr b2, ?_⟩
    rw [hdr, sp_tbs_c, ← List.append_assoc]
    exact b3
theorem so_w210 {X : List Nat} {F : sp_F} {v1 v2 v3 : Int32} (hw : wf_F F) : ∀ (k i n : Nat) (M : zm_M) (B : List Nat), i + k = X.length → k + 20 < n → rm_L M X → rm_F M F → rm_W M B → B.length + (sp_tbs (X.drop i) ++ (sp_two F.2.1.length ++ sp_tbs F.2.1.reverse)).length ≤ 2500 → ∃ M', rr_mo_writeRow n 210 [some (.inr (35, 0)), some (.inl v1), some (.inl v2), some (.inl v3), some (.inl (nI i))] [] M = some M' ∧ zo_n 40 61 M M' ∧ rm_W M' (B ++ (sp_tbs (X.drop i) ++ (sp_two F.2.1.length ++ sp_tbs F.2.1.reverse))) := by
  intro k
  induction k with
  | zero =>
    intro i n M B hk hn hX hF hB hl
    obtain ⟨n, rfl⟩ : ∃ m, n = m + 1 := ⟨n - 1, by omega⟩
    have hXl := hX.2.1
    have hFl := rm_len hF
    have hd : M 35 0 20 = nI F.2.1.length := hF.1.2.2.1
    rw [List.drop_eq_nil_of_le (show X.length ≤ i by omega), show sp_tbs [] = [] from rfl, List.nil_append] at hl ⊢
    rw [List.length_append, sp_two_len] at hl
    rw [eq_mo_writeRow_210, hX.1, if_neg (ni_nl (by omega) (by omega) (by omega)), hd]
    obtain ⟨M1, a1, a2, a3⟩ := sm_writeTwo (v := F.2.1.length) hB (by omega) (by omega)
    rw [a1, Option.bind_some, nz_0]
    obtain ⟨M2, b1, b2, b3⟩ := so_w247 (v1 := v1) (v2 := v2) (v3 := v3) hw F.2.1.length 0 (n + 1) M1 (B ++ sp_two F.2.1.length) (by omega) (by omega) (a2.F (by omega) (by omega) hF) a3 (by rw [List.length_append, sp_two_len, List.drop_zero]; omega)
    refine ⟨M2, b1, a2.tr b2, ?_⟩
    rw [List.drop_zero, List.append_assoc] at b3
    exact b3
  | succ k ih =>
    intro i n M B hk hn hX hF hB hl
    obtain ⟨n, rfl⟩ : ∃ m, n = m + 1 := ⟨n - 1, by omega⟩
    have hXl := hX.2.1
    have hd := dr_c (show i < X.length by omega)
    rw [hd, sp_tbs_c, List.append_assoc, List.length_append] at hl
    rw [eq_mo_writeRow_210, hX.1, if_pos (ni_lt (by omega) (by omega) (by omega)), nI_clamp (by omega)]
    simp only [nz_0, nz_1, nz_2, nz_3, nz_4, nz_5, nz_6, nz_7, nz_8, nz_9, nz_10, nz_11, nz_12, nz_13, nz_14, nz_15, nz_16, nz_17, nz_18, nz_19, nz_20, nz_21, nz_22, nz_23, nz_24, nz_25, nz_26, nz_27, nz_28, nz_29, nz_30, nz_31, nz_32, nz_33, nz_34, nz_35, nz_36, nz_37, nz_38, nz_39, nz_40, nz_41, nz_42, nz_43, nz_44, nz_45, nz_46, nz_47, nz_48, nz_49, nz_50, nz_51, nz_63, nz_64, nz_66, nz_127, nz_128, nz_246, nz_247, nz_248, nz_250, nz_251, nz_252, nz_254, nz_255, nz_256, nz_400, nz_2500, nI_add]
    rw [if_neg (ni_in (show i < 12 by omega) (by omega)), hX.2.2.1 i (by omega)]
    obtain ⟨M1, a1, a2, a3⟩ := sm_writeType hB (by omega) (wt_gd hX.2.2.2 i)
    rw [a1, Option.bind_some]
    obtain ⟨M2, b1, b2, b3⟩ := ih (i + 1) n M1 (B ++ sp_tb (X.getD i 0)) (by omega) (by omega) (a2.L (by omega) (by omega) (by omega) hX) (a2.F (by omega) (by omega) hF) a3 (by rw [List.length_append]; omega)
    refine ⟨M2, b1, a2.tr b2, ?_⟩
    rw [hd, sp_tbs_c]
    simp only [List.append_assoc] at b3 ⊢
    exact b3
theorem so_in3 {a b : Nat} (ha : a < 11) (hb : b < 11) (M : zm_M) : fn_mo_in [.inl (nI a - nI b), .inl (-nI 3), .inl (nI 3)] M = some (bI (decide (a ≤ b + 3 ∧ b ≤ a + 3)), M) := by
  have key : ∀ a, a < 11 → ∀ b, b < 11 → ((¬ nI a - nI b < -nI 3 ∧ ¬ nI 3 < nI a - nI b) ↔ (a ≤ b + 3 ∧ b ≤ a + 3)) := by decide +kernel
  have k := key a ha b hb
  rw [eq_mo_in]
  simp only [nz_0, nz_1]
  by_cases e : a ≤ b + 3 ∧ b ≤ a + 3
  · obtain ⟨h1, h2⟩ := k.mpr e
    rw [if_neg h1, if_neg h2, decide_eq_true e]
    rfl
  · rw [decide_eq_false e]
    by_cases h1 : nI a - nI b < -nI 3
    · rw [if_pos h1]
      rfl
    · rw [if_neg h1]
      by_cases h2 : nI 3 < nI a - nI b
      · rw [if_pos h2]
        rfl
      · exact absurd (k.mp ⟨h1, h2⟩) e
theorem sm_writeRow {M : zm_M} {X Y B : List Nat} {d : Nat} {F : sp_F} (hX : rm_L M X) (hY : rm_K M Y) (hF : rm_F M F) (hw : wf_F F) (hB : rm_W M B) (hl : B.length + (sp_rb Y X F.2.1 d).length ≤ 2500) (hd : d < 2 ^ 20) : ∃ M', fn_mo_writeRow [.inr (35, 0), .inl (nI d)] M = some M' ∧ zo_n 40 61 M M' ∧ rm_W M' (B ++ sp_rb Y X F.2.1 d) := by
  have hXl := hX.2.1
  have hYl := hY.2.1
  have hl8 := rm_len hF
  obtain ⟨w1, w2, w3⟩ := wr_abs X.length (by omega) Y.length (by omega)
  have hdep : M 35 0 20 = nI F.2.1.length := hF.1.2.2.1
  have whole : ∀ (v2 v3 : Int32) (o4 : Option zm_V), sp_rb Y X F.2.1 d = 255 :: (sp_two d ++ (sp_two X.length ++ (sp_tbs X ++ (sp_two F.2.1.length ++ sp_tbs F.2.1.reverse)))) → ∃ M', rr_mo_writeRow (1073741823 + 1) 187 [some (.inr (35, 0)), some (.inl (nI d)), some (.inl v2), some (.inl v3), o4] [] M = some M' ∧ zo_n 40 61 M M' ∧ rm_W M' (B ++ sp_rb Y X F.2.1 d) := by
    intro v2 v3 o4 he
    rw [he] at hl ⊢
    rw [List.length_cons, List.length_append, List.length_append, sp_two_len, sp_two_len] at hl
    obtain ⟨M1, a1, a2, a3⟩ := sm_write (x := 255) hB (by omega)
    obtain ⟨M2, b1, b2, b3⟩ := sm_writeTwo (v := d) a3 (by simp; omega) (by omega)
    have z2 := a2.tr b2
    have hX2 := z2.L (by omega) (by omega) (by omega) hX
    obtain ⟨M3, c1, c2, c3⟩ := sm_writeTwo (v := X.length) b3 (by simp [sp_two_len]; omega) (by omega)
    have z3 := z2.tr c2
    have hX3 := z3.L (by omega) (by omega) (by omega) hX
    have hF3 := z3.F (by omega) (by omega) hF
    rw [eq_mo_writeRow_187]
    simp only [nz_0, nz_1, nz_2, nz_3, nz_4, nz_5, nz_6, nz_7, nz_8, nz_9, nz_10, nz_11, nz_12, nz_13, nz_14, nz_15, nz_16, nz_17, nz_18, nz_19, nz_20, nz_21, nz_22, nz_23, nz_24, nz_25, nz_26, nz_27, nz_28, nz_29, nz_30, nz_31, nz_32, nz_33, nz_34, nz_35, nz_36, nz_37, nz_38, nz_39, nz_40, nz_41, nz_42, nz_43, nz_44, nz_45, nz_46, nz_47, nz_48, nz_49, nz_50, nz_51, nz_63, nz_64, nz_66, nz_127, nz_128, nz_246, nz_247, nz_248, nz_250, nz_251, nz_252, nz_254, nz_255, nz_256, nz_400, nz_2500]
    obtain ⟨M4, e1, e2, e3⟩ := so_w210 (v1 := nI d) (v2 := v2) (v3 := v3) hw X.length 0 (1073741823 + 1) M3 (B ++ [255] ++ sp_two d ++ sp_two X.length) (by omega) (by omega) hX3 hF3 c3 (by
      rw [List.drop_zero]
      simp only [List.length_append, sp_two_len, List.length_cons, List.length_nil] at hl ⊢
      omega)
    rw [a1, Option.bind_some, b1, Option.bind_some, hX2.1, c1, Option.bind_some, e1]
    refine ⟨M4, rfl, z3.tr e2, ?_⟩
    rw [List.drop_zero] at e3
    simp only [List.append_assoc, List.singleton_append, List.cons_append, List.nil_append] at e3 ⊢
    exact e3
  have near : ∀ (bg : Bool) (o4 : Option zm_V), bg = decide (sp_cp X Y = min X.length Y.length) → ¬ (sp_cp X Y = min X.length Y.length ∧ X.length = Y.length ∧ F.2.1.length = 0) → ¬ (sp_cp X Y = min X.length Y.length ∧ X.length = Y.length ∧ F.2.1.length = 1) → ∃ M', rr_mo_writeRow (1073741823 + 1) 117 [some (.inr (35, 0)), some (.inl (nI d)), some (.inl (bI bg)), some (.inl (nI X.length - nI Y.length)), o4] [] M = some M' ∧ zo_n 40 61 M M' ∧ rm_W M' (B ++ sp_rb Y X F.2.1 d) := by
    intro bg o4 hbg h0 h1
    rw [eq_mo_writeRow_117]
    simp only [nz_0, nz_1, nz_2, nz_3, nz_4, nz_5, nz_6, nz_7, nz_8, nz_9, nz_10, nz_11, nz_12, nz_13, nz_14, nz_15, nz_16, nz_17, nz_18, nz_19, nz_20, nz_21, nz_22, nz_23, nz_24, nz_25, nz_26, nz_27, nz_28, nz_29, nz_30, nz_31, nz_32, nz_33, nz_34, nz_35, nz_36, nz_37, nz_38, nz_39, nz_40, nz_41, nz_42, nz_43, nz_44, nz_45, nz_46, nz_47, nz_48, nz_49, nz_50, nz_51, nz_63, nz_64, nz_66, nz_127, nz_128, nz_246, nz_247, nz_248, nz_250, nz_251, nz_252, nz_254, nz_255, nz_256, nz_400, nz_2500, bI_0]
    by_cases eb : sp_cp X Y = min X.length Y.length
    · rw [if_neg (by rw [hbg, decide_eq_true eb]; decide), so_in3 (by omega) (by omega)]
      simp only [Option.bind_some, bI_0]
      rw [hdep]
      by_cases en : X.length ≤ Y.length + 3 ∧ Y.length ≤ X.length + 3
      · rw [if_neg (by rw [decide_eq_true en]; decide)]
        by_cases ed : F.2.1.length = 0
        · rw [if_pos (by rw [ed]), w3 en.1 en.2]
          have he : sp_rb Y X F.2.1 d = (251 + X.length - Y.length) :: (sp_two d ++ sp_tbs (X.drop Y.length)) := by
            unfold sp_rb
            rw [if_neg h0, if_neg h1, if_pos ⟨eb, en.1, en.2, ed⟩]
          rw [he] at hl ⊢
          rw [List.length_cons, List.length_append, sp_two_len] at hl
          obtain ⟨M1, a1, a2, a3⟩ := sm_write (x := 251 + X.length - Y.length) hB (by omega)
          obtain ⟨M2, b1, b2, b3⟩ := sm_writeTwo (v := d) a3 (by simp; omega) (by omega)
          have z2 := a2.tr b2
          have hX2 := z2.L (by omega) (by omega) (by omega) hX
          have hY2 := z2.K (by omega) (by omega) (by omega) hY
          obtain ⟨M3, c1, c2, c3⟩ := so_w158 (v1 := nI d) (v2 := bI bg) (v3 := nI X.length - nI Y.length) (X.length - Y.length) Y.length (1073741823 + 1) M2 (B ++ [251 + X.length - Y.length] ++ sp_two d) (by omega) (by omega) (by omega) hX2 b3 (by
            simp only [List.length_append, sp_two_len, List.length_cons, List.length_nil]
            omega)
          rw [a1, Option.bind_some, b1, Option.bind_some, hY2.1, c1]
          refine ⟨M3, rfl, z2.tr c2, ?_⟩
          simp only [List.append_assoc, List.singleton_append, List.cons_append, List.nil_append] at c3 ⊢
          exact c3
        · rw [if_neg (ni_ne ed (by omega) (by omega))]
          refine whole _ _ _ ?_
          unfold sp_rb
          rw [if_neg h0, if_neg h1, if_neg (fun q => ed q.2.2.2)]
      · rw [if_pos (by rw [decide_eq_false en])]
        refine whole _ _ _ ?_
        unfold sp_rb
        rw [if_neg h0, if_neg h1, if_neg (fun q => en ⟨q.2.1, q.2.2.1⟩)]
    · rw [if_pos (by rw [hbg, decide_eq_false eb])]
      refine whole _ _ _ ?_
      unfold sp_rb
      rw [if_neg h0, if_neg h1, if_neg (fun q => eb q.1)]
  have one : ∀ (bg : Bool), bg = decide (sp_cp X Y = min X.length Y.length) → ¬ (sp_cp X Y = min X.length Y.length ∧ X.length = Y.length ∧ F.2.1.length = 0) → ∃ M', rr_mo_writeRow (1073741823 + 1) 59 [some (.inr (35, 0)), some (.inl (nI d)), some (.inl (bI bg)), some (.inl (nI X.length - nI Y.length)), none] [] M = some M' ∧ zo_n 40 61 M M' ∧ rm_W M' (B ++ sp_rb Y X F.2.1 d) := by
    intro bg hbg h0
    rw [eq_mo_writeRow_59]
    simp only [nz_0, nz_1, nz_2, nz_3, nz_4, nz_5, nz_6, nz_7, nz_8, nz_9, nz_10, nz_11, nz_12, nz_13, nz_14, nz_15, nz_16, nz_17, nz_18, nz_19, nz_20, nz_21, nz_22, nz_23, nz_24, nz_25, nz_26, nz_27, nz_28, nz_29, nz_30, nz_31, nz_32, nz_33, nz_34, nz_35, nz_36, nz_37, nz_38, nz_39, nz_40, nz_41, nz_42, nz_43, nz_44, nz_45, nz_46, nz_47, nz_48, nz_49, nz_50, nz_51, nz_63, nz_64, nz_66, nz_127, nz_128, nz_246, nz_247, nz_248, nz_250, nz_251, nz_252, nz_254, nz_255, nz_256, nz_400, nz_2500, bI_0]
    by_cases eb : sp_cp X Y = min X.length Y.length
    · rw [if_neg (by rw [hbg, decide_eq_true eb]; decide)]
      by_cases el : X.length = Y.length
      · rw [if_pos (w2.mpr el), hdep]
        by_cases e1 : F.2.1.length = 1
        · rw [if_pos (by rw [e1])]
          obtain ⟨t, ht⟩ : ∃ t, F.2.1 = [t] := List.length_eq_one_iff.mp e1
          have htw := hw.2 t (by rw [ht]; exact List.mem_singleton.mpr rfl)
          have he : sp_rb Y X F.2.1 d = (if d < 64 then [64 + d] else 247 :: sp_two d) ++ sp_tb t := by
            unfold sp_rb
            rw [if_neg h0, if_pos ⟨eb, el, e1⟩, ht]
            have : sp_tbs [t] = sp_tb t := by unfold sp_tbs; simp
            rw [this]
          rw [he] at hl ⊢
          rw [List.length_append] at hl
          have tail : ∀ (M1 : zm_M), zo_n 40 61 M M1 → rm_W M1 (B ++ (if d < 64 then [64 + d] else 247 :: sp_two d)) → ∃ M', rr_mo_writeRow (1073741823 + 1) 104 [some (.inr (35, 0)), some (.inl (nI d)), some (.inl (bI bg)), some (.inl (nI X.length - nI Y.length)), none] [] M1 = some M' ∧ zo_n 40 61 M M' ∧ rm_W M' (B ++ ((if d < 64 then [64 + d] else 247 :: sp_two d) ++ sp_tb t)) := by
            intro M1 hz hB1
            have hF1 := hz.F (by omega) (by omega) hF
            have h48 : M1 48 0 0 = nI t := by
              rw [hF1.1.2.2.2.1 0 (by omega), ht]
              rfl
            obtain ⟨M2, b1, b2, b3⟩ := sm_writeType hB1 (by rw [List.length_append]; omega) htw
            rw [eq_mo_writeRow_104]
            simp only [nz_0, nz_1, nz_2, nz_3, nz_4, nz_5, nz_6, nz_7, nz_8, nz_9, nz_10, nz_11, nz_12, nz_13, nz_14, nz_15, nz_16, nz_17, nz_18, nz_19, nz_20, nz_21, nz_22, nz_23, nz_24, nz_25, nz_26, nz_27, nz_28, nz_29, nz_30, nz_31, nz_32, nz_33, nz_34, nz_35, nz_36, nz_37, nz_38, nz_39, nz_40, nz_41, nz_42, nz_43, nz_44, nz_45, nz_46, nz_47, nz_48, nz_49, nz_50, nz_51, nz_63, nz_64, nz_66, nz_127, nz_128, nz_246, nz_247, nz_248, nz_250, nz_251, nz_252, nz_254, nz_255, nz_256, nz_400, nz_2500]
            rw [if_neg (by decide), nI_clamp (by omega), h48, b1, Option.bind_some, eq_mo_writeRow_273]
            refine ⟨M2, rfl, hz.tr b2, ?_⟩
            rw [List.append_assoc] at b3
            exact b3
          by_cases e64 : d < 64
          · rw [if_pos (ni_lt e64 (by omega) (by omega)), nI_add]
            rw [if_pos e64] at hl tail ⊢
            simp only [List.length_cons, List.length_nil] at hl
            obtain ⟨M1, a1, a2, a3⟩ := sm_write (x := 64 + d) hB (by omega)
            rw [a1, Option.bind_some]
            exact tail M1 a2 a3
          · rw [if_neg (ni_nl (by omega) (by omega) (by omega))]
            rw [if_neg e64] at hl tail ⊢
            simp only [List.length_cons, sp_two_len] at hl
            obtain ⟨M1, a1, a2, a3⟩ := sm_write (x := 247) hB (by omega)
            obtain ⟨M2, b1, b2, b3⟩ := sm_writeTwo (v := d) a3 (by simp; omega) (by omega)
            rw [a1, Option.bind_some, b1, Option.bind_some]
            rw [List.append_assoc] at b3
            exact tail M2 (a2.tr b2) b3
        · rw [if_neg (ni_ne e1 (by omega) (by omega))]
          exact near bg none hbg h0 (fun q => e1 q.2.2)
      · rw [if_neg (fun q => el (w2.mp q))]
        exact near bg none hbg h0 (fun q => el q.2.1)
    · rw [if_pos (by rw [hbg, decide_eq_false eb])]
      exact near bg none hbg h0 (fun q => eb q.1)
  rw [eq_mo_writeRow, show (1073741824 : Nat) = 1073741823 + 1 from rfl, eq_mo_writeRow_0, sm_begins hX hY]
  simp only [Option.bind_some, nz_0, nz_1, nz_2, nz_3, nz_4, nz_5, nz_6, nz_7, nz_8, nz_9, nz_10, nz_11, nz_12, nz_13, nz_14, nz_15, nz_16, nz_17, nz_18, nz_19, nz_20, nz_21, nz_22, nz_23, nz_24, nz_25, nz_26, nz_27, nz_28, nz_29, nz_30, nz_31, nz_32, nz_33, nz_34, nz_35, nz_36, nz_37, nz_38, nz_39, nz_40, nz_41, nz_42, nz_43, nz_44, nz_45, nz_46, nz_47, nz_48, nz_49, nz_50, nz_51, nz_63, nz_64, nz_66, nz_127, nz_128, nz_246, nz_247, nz_248, nz_250, nz_251, nz_252, nz_254, nz_255, nz_256, nz_400, nz_2500, bI_0]
  rw [hX.1, hY.1, hdep]
  by_cases eb : sp_cp X Y = min X.length Y.length
  · rw [if_neg (by rw [decide_eq_true eb]; decide)]
    by_cases el : X.length = Y.length
    · rw [if_pos (w2.mpr el)]
      by_cases e0 : F.2.1.length = 0
      · rw [if_pos (by rw [e0])]
        have he : sp_rb Y X F.2.1 d = if d < 64 then [d] else 251 :: sp_two d := by
          unfold sp_rb
          rw [if_pos ⟨eb, el, e0⟩]
        rw [he] at hl ⊢
        by_cases e64 : d < 64
        · rw [if_pos (ni_lt e64 (by omega) (by omega))]
          rw [if_pos e64] at hl ⊢
          simp only [List.length_cons, List.length_nil] at hl
          obtain ⟨M1, a1, a2, a3⟩ := sm_write (x := d) hB (by omega)
          rw [a1, Option.bind_some, eq_mo_writeRow_273]
          exact ⟨M1, rfl, a2, a3⟩
        · rw [if_neg (ni_nl (by omega) (by omega) (by omega))]
          rw [if_neg e64] at hl ⊢
          simp only [List.length_cons, sp_two_len] at hl
          obtain ⟨M1, a1, a2, a3⟩ := sm_write (x := 251) hB (by omega)
          obtain ⟨M2, b1, b2, b3⟩ := sm_writeTwo (v := d) a3 (by simp; omega) (by omega)
          rw [a1, Option.bind_some, b1, Option.bind_some, eq_mo_writeRow_273]
          rw [List.append_assoc] at b3
          exact ⟨M2, rfl, a2.tr b2, b3⟩
      · rw [if_neg (ni_ne e0 (by omega) (by omega))]
        exact one _ rfl (fun q => e0 q.2.2)
    · rw [if_neg (fun q => el (w2.mp q))]
      exact one _ rfl (fun q => el q.2.1)
  · rw [if_pos (by rw [decide_eq_false eb])]
    exact one _ rfl (fun q => eb q.1)
