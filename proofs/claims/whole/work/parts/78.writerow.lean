/-! the class writes a row -/
theorem rc_W.kept {M M' : zm_M} {b : Nat} {B : List Nat} (h : rc_W M b B) (h5 : M' 15 b = M 15 b) (h6 : M' 16 b = M 16 b) : rc_W M' b B := by
  unfold rc_W at h ⊢
  rw [h5, h6]
  exact h
theorem zo_W.L {M M' : zm_M} {b f : Nat} {X : List Nat} (h : zo_W b M M') (hX : rc_L M f X) : rc_L M' f X := hX.kept (by rw [h.s (by decide) (by decide)]) (by rw [h.s (by decide) (by decide)])
theorem zo_W.F {M M' : zm_M} {b f : Nat} {F : sp_F} (h : zo_W b M M') (hF : rc_F M f F) : rc_F M' f F := hF.kept (by rw [h.s (by decide) (by decide)]) (by rw [h.s (by decide) (by decide)]) (by rw [h.s (by decide) (by decide)])
theorem sc_wta {X : List Nat} {v2 : Int32} (hXl : X.length ≤ 10) : ∀ (k i n : Nat) (M : zm_M) (B : List Nat), (i + k = X.length ∨ (k = 0 ∧ X.length ≤ i)) → i < 2 ^ 20 → k < n → rc_L M 1 X → rc_W M 1 B → B.length + 3 * k < 2 ^ 27 → ∃ M', rr_wr_writeTypes n 3 [some (.inr (26, 0)), some (.inr (28, 1)), some (.inl v2), some (.inl (nI X.length)), some (.inl (nI i))] [] M = some M' ∧ zo_W 1 M M' ∧ rc_W M' 1 (B ++ sp_tbs (X.drop i)) := by
  intro k
  induction k with
  | zero =>
    intro i n M B hk hi hn hX hB hl
    obtain ⟨n, rfl⟩ : ∃ m, n = m + 1 := ⟨n - 1, by omega⟩
    rw [eq_wr_writeTypes_3a, if_neg (ni_nl (by omega) (by omega) (by omega)), List.drop_eq_nil_of_le (by omega)]
    refine ⟨M, rfl, zo_W.rf, ?_⟩
    rw [show sp_tbs [] = [] from rfl, List.append_nil]
    exact hB
  | succ k ih =>
    intro i n M B hk hi hn hX hB hl
    obtain ⟨n, rfl⟩ : ∃ m, n = m + 1 := ⟨n - 1, by omega⟩
    have hwl := sp_wt_lt (wt_gd hX.2.2.2.2 i)
    have htb := sp_tb_le (X.getD i 0)
    rw [eq_wr_writeTypes_3a, if_pos (ni_lt (by omega) (by omega) (by omega)), nI_clamp (by omega)]
    simp only [nz_0, nz_1, nz_2, nz_3, nz_4, nz_5, nz_6, nz_7, nz_8, nz_9, nz_10, nz_11, nz_12, nz_13, nz_14, nz_15, nz_16, nz_17, nz_18, nz_19, nz_20, nz_21, nz_22, nz_23, nz_24, nz_25, nz_26, nz_27, nz_28, nz_29, nz_30, nz_31, nz_32, nz_33, nz_34, nz_35, nz_36, nz_37, nz_38, nz_39, nz_40, nz_41, nz_42, nz_43, nz_44, nz_45, nz_46, nz_47, nz_48, nz_49, nz_50, nz_51, nz_63, nz_64, nz_66, nz_127, nz_128, nz_246, nz_247, nz_248, nz_250, nz_251, nz_252, nz_254, nz_255, nz_256, nz_400, nz_2500, nI_add]
    rw [if_neg (ni_in (show i < 10 by omega) (by omega)), hX.2.2.2.1 i (by omega)]
    obtain ⟨M1, a1, a2, a3⟩ := sc_putType (t := X.getD i 0) hB (by omega) (by omega)
    rw [a1, Option.bind_some]
    obtain ⟨M2, b1, b2, b3⟩ := ih (i + 1) n M1 (B ++ sp_tb (X.getD i 0)) (by omega) (by omega) (by omega) (a2.L hX) a3 (by rw [List.length_append]; omega)
    refine ⟨M2, b1, a2.tr b2, ?_⟩
    rw [dr_c (show i < X.length by omega), sp_tbs_c, ← List.append_assoc]
    exact b3
theorem sc_writeTypesA {M : zm_M} {X B : List Nat} {i : Nat} (hi : i ≤ 10) (hX : rc_L M 1 X) (hB : rc_W M 1 B) (hl : B.length < 2 ^ 26) : ∃ M', fn_wr_writeTypes [.inr (26, 0), .inr (28, 1), .inl (nI i), .inl (nI X.length)] M = some M' ∧ zo_W 1 M M' ∧ rc_W M' 1 (B ++ sp_tbs (X.drop i)) := by
  have hXl := hX.len
  rw [eq_wr_writeTypesa, show (1073741824 : Nat) = 1073741823 + 1 from rfl, eq_wr_writeTypes_0a]
  exact sc_wta hXl (X.length - i) i _ M B (by omega) (by omega) (by omega) hX hB (by omega)
theorem sc_wtb {g : Nat} {F : sp_F} {v2 : Int32} (hl8 : F.2.1.length ≤ 8) (hw : wf_F F) : ∀ (k i n : Nat) (M : zm_M) (B : List Nat), i + k = F.2.1.length → k < n → rc_F M g F → rc_W M 1 B → B.length + 3 * k < 2 ^ 27 → ∃ M', rr_wr_writeTypes n 3 [some (.inr (26, 0)), some (.inr (25, g)), some (.inl v2), some (.inl (nI F.2.1.length)), some (.inl (nI i))] [] M = some M' ∧ zo_W 1 M M' ∧ rc_W M' 1 (B ++ sp_tbs (F.2.1.reverse.drop i)) := by
  intro k
  induction k with
  | zero =>
    intro i n M B hk hn hX hB hl
    obtain ⟨n, rfl⟩ : ∃ m, n = m + 1 := ⟨n - 1, by omega⟩
    rw [eq_wr_writeTypes_3b, if_neg (ni_nl (by omega) (by omega) (by omega)), List.drop_eq_nil_of_le (by simp; omega)]
    refine ⟨M, rfl, zo_W.rf, ?_⟩
    rw [show sp_tbs [] = [] from rfl, List.append_nil]
    exact hB
  | succ k ih =>
    intro i n M B hk hn hX hB hl
    obtain ⟨n, rfl⟩ : ∃ m, n = m + 1 := ⟨n - 1, by omega⟩
    have hwr : ∀ t ∈ F.2.1.reverse, sp_wt t := by simpa using hw.2
    have hwl := sp_wt_lt (wt_gd hwr i)
    have htb := sp_tb_le (F.2.1.reverse.getD i 0)
    have hM : M 25 g i = nI (F.2.1.reverse.getD i 0) := by
      rw [gd_rev (by omega)]
      exact hX.1.2.2.2.1 i (by omega)
    rw [eq_wr_writeTypes_3b, if_pos (ni_lt (by omega) (by omega) (by omega)), nI_clamp (by omega)]
    simp only [nz_0, nz_1, nz_2, nz_3, nz_4, nz_5, nz_6, nz_7, nz_8, nz_9, nz_10, nz_11, nz_12, nz_13, nz_14, nz_15, nz_16, nz_17, nz_18, nz_19, nz_20, nz_21, nz_22, nz_23, nz_24, nz_25, nz_26, nz_27, nz_28, nz_29, nz_30, nz_31, nz_32, nz_33, nz_34, nz_35, nz_36, nz_37, nz_38, nz_39, nz_40, nz_41, nz_42, nz_43, nz_44, nz_45, nz_46, nz_47, nz_48, nz_49, nz_50, nz_51, nz_63, nz_64, nz_66, nz_127, nz_128, nz_246, nz_247, nz_248, nz_250, nz_251, nz_252, nz_254, nz_255, nz_256, nz_400, nz_2500, nI_add]
    rw [if_neg (ni_in (show i < 8 by omega) (by omega)), hM]
    obtain ⟨M1, a1, a2, a3⟩ := sc_putType (t := F.2.1.reverse.getD i 0) hB (by omega) (by omega)
    rw [a1, Option.bind_some]
    obtain ⟨M2, b1, b2, b3⟩ := ih (i + 1) n M1 (B ++ sp_tb (F.2.1.reverse.getD i 0)) (by omega) (by omega) (a2.F hX) a3 (by rw [List.length_append]; omega)
    refine ⟨M2, b1, a2.tr b2, ?_⟩
    rw [dr_c (show i < F.2.1.reverse.length by simp; omega), sp_tbs_c, ← List.append_assoc]
    exact b3
theorem sc_writeTypesB {M : zm_M} {B : List Nat} {g : Nat} {F : sp_F} (hF : rc_F M g F) (hw : wf_F F) (hB : rc_W M 1 B) (hl : B.length < 2 ^ 26) : ∃ M', fn_wr_writeTypes [.inr (26, 0), .inr (25, g), .inl (nI 0), .inl (nI F.2.1.length)] M = some M' ∧ zo_W 1 M M' ∧ rc_W M' 1 (B ++ sp_tbs F.2.1.reverse) := by
  have hl8 : F.2.1.length ≤ 8 := Nat.le_trans (sp_sl_len _) hF.2.2
  rw [eq_wr_writeTypesb, show (1073741824 : Nat) = 1073741823 + 1 from rfl, eq_wr_writeTypes_0b]
  have := sc_wtb (g := g) (v2 := nI 0) hl8 hw F.2.1.length 0 (1073741823 + 1) M B (by omega) (by omega) hF hB (by omega)
  rw [List.drop_zero] at this
  exact this
theorem sc_head {M : zm_M} {B : List Nat} {a w d : Nat} (hB : rc_W M 1 B) (hl : B.length < 2 ^ 26) (hd : d < 2 ^ 20) : ∃ M', fn_wr_writeHead [.inr (26, 0), .inl (nI a), .inl (nI w), .inl (nI d)] M = some M' ∧ zo_W 1 M M' ∧ rc_W M' 1 (B ++ (if d < 64 then [a + d] else w :: sp_two d)) := by
  rw [eq_wr_writeHead]
  simp only [nz_0, nz_1, nz_2, nz_3, nz_4, nz_5, nz_6, nz_7, nz_8, nz_9, nz_10, nz_11, nz_12, nz_13, nz_14, nz_15, nz_16, nz_17, nz_18, nz_19, nz_20, nz_21, nz_22, nz_23, nz_24, nz_25, nz_26, nz_27, nz_28, nz_29, nz_30, nz_31, nz_32, nz_33, nz_34, nz_35, nz_36, nz_37, nz_38, nz_39, nz_40, nz_41, nz_42, nz_43, nz_44, nz_45, nz_46, nz_47, nz_48, nz_49, nz_50, nz_51, nz_63, nz_64, nz_66, nz_127, nz_128, nz_246, nz_247, nz_248, nz_250, nz_251, nz_252, nz_254, nz_255, nz_256, nz_400, nz_2500]
  by_cases e : d < 64
  · rw [if_pos (ni_lt e (by omega) (by omega)), nI_add, if_pos e]
    obtain ⟨M1, a1, a2, a3⟩ := sc_put (x := a + d) hB (by omega)
    rw [a1, Option.bind_some]
    exact ⟨M1, rfl, a2, a3⟩
  · rw [if_neg (ni_nl (by omega) (by omega) (by omega)), if_neg e]
    obtain ⟨M1, a1, a2, a3⟩ := sc_put (x := w) hB (by omega)
    obtain ⟨M2, b1, b2, b3⟩ := sc_putTwo (v := d) a3 (by simp; omega) (by omega)
    rw [a1, Option.bind_some, b1, Option.bind_some]
    rw [List.append_assoc] at b3
    exact ⟨M2, rfl, a2.tr b2, b3⟩
theorem sp_two_len (v : Nat) : (sp_two v).length = 2 := rfl
theorem sc_writeWhole {M : zm_M} {X B : List Nat} {g d : Nat} {F : sp_F} (hX : rc_L M 1 X) (hF : rc_F M g F) (hw : wf_F F) (hB : rc_W M 1 B) (hl : B.length < 2 ^ 20) (hd : d < 2 ^ 20) : ∃ M', fn_wr_writeWhole [.inr (26, 0), .inr (23, g), .inl (nI d)] M = some M' ∧ zo_W 1 M M' ∧ rc_W M' 1 (B ++ (255 :: (sp_two d ++ (sp_two X.length ++ (sp_tbs X ++ (sp_two F.2.1.length ++ sp_tbs F.2.1.reverse)))))) := by
  have hXl := hX.len
  have hl8 : F.2.1.length ≤ 8 := Nat.le_trans (sp_sl_len _) hF.2.2
  have ht1 := sp_tbs_le X
  rw [eq_wr_writeWhole]
  simp only [nz_0, nz_1, nz_2, nz_3, nz_4, nz_5, nz_6, nz_7, nz_8, nz_9, nz_10, nz_11, nz_12, nz_13, nz_14, nz_15, nz_16, nz_17, nz_18, nz_19, nz_20, nz_21, nz_22, nz_23, nz_24, nz_25, nz_26, nz_27, nz_28, nz_29, nz_30, nz_31, nz_32, nz_33, nz_34, nz_35, nz_36, nz_37, nz_38, nz_39, nz_40, nz_41, nz_42, nz_43, nz_44, nz_45, nz_46, nz_47, nz_48, nz_49, nz_50, nz_51, nz_63, nz_64, nz_66, nz_127, nz_128, nz_246, nz_247, nz_248, nz_250, nz_251, nz_252, nz_254, nz_255, nz_256, nz_400, nz_2500]
  obtain ⟨M1, a1, a2, a3⟩ := sc_put (x := 255) hB (by omega)
  obtain ⟨M2, b1, b2, b3⟩ := sc_putTwo (v := d) a3 (by simp; omega) (by omega)
  have z2 := a2.tr b2
  have hX2 := z2.L hX
  obtain ⟨M3, c1, c2, c3⟩ := sc_putTwo (v := X.length) b3 (by simp [sp_two_len]; omega) (by omega)
  have z3 := z2.tr c2
  have hX3 := z3.L hX
  obtain ⟨M4, d1, d2, d3⟩ := sc_writeTypesA (i := 0) (by omega) hX3 c3 (by simp [sp_two_len]; omega)
  rw [List.drop_zero] at d3
  have z4 := z3.tr d2
  have hF4 := z4.F hF
  obtain ⟨M5, e1, e2, e3⟩ := sc_putTwo (v := F.2.1.length) d3 (by simp [sp_two_len]; omega) (by omega)
  have z5 := z4.tr e2
  have hF5 := z5.F hF
  obtain ⟨M6, f1, f2, f3⟩ := sc_writeTypesB hF5 hw e3 (by simp [sp_two_len]; omega)
  rw [a1, Option.bind_some, b1, Option.bind_some, hX2.1, c1, Option.bind_some, hX3.1, d1, Option.bind_some, hF4.1.2.2.1, e1, Option.bind_some, hF5.1.2.2.1, f1, Option.bind_some]
  refine ⟨M6, rfl, z5.tr f2, ?_⟩
  simp only [List.append_assoc, List.singleton_append, List.cons_append] at f3 ⊢
  exact f3
set_option maxRecDepth 10000 in
theorem wr_abs : ∀ a, a < 11 → ∀ b, b < 11 → ((nI 3 < (if (0 : Int32) ≤ nI a - nI b then nI a - nI b else 0 - (nI a - nI b))) ↔ ¬ (a ≤ b + 3 ∧ b ≤ a + 3)) ∧ (nI a - nI b = nI 0 ↔ a = b) ∧ (a ≤ b + 3 → b ≤ a + 3 → nI 251 + (nI a - nI b) = nI (251 + a - b)) := by decide +kernel
theorem zm_mn_e {a b : Nat} (ha : a < 2 ^ 31) (hb : b < 2 ^ 31) (M : zm_M) : zm_mn [.inl (nI a), .inl (nI b)] M = some (nI (min a b), M) := by
  show some (if nI b < nI a then nI b else nI a, M) = _
  by_cases e : b < a
  · rw [if_pos (ni_lt e hb ha), Nat.min_eq_right (by omega)]
  · rw [if_neg (ni_nl (by omega) hb ha), Nat.min_eq_left (by omega)]
theorem sc_writeRow {M : zm_M} {X Y B : List Nat} {g d : Nat} {F : sp_F} (hX : rc_L M 1 X) (hY : rc_L M 0 Y) (hF : rc_F M g F) (hw : wf_F F) (hB : rc_W M 1 B) (hl : B.length < 2 ^ 20) (hd : d < 2 ^ 20) : ∃ M', fn_wr_writeRow [.inr (26, 0), .inr (23, g), .inl (nI d)] M = some M' ∧ zo_W 1 M M' ∧ rc_W M' 1 (B ++ sp_rb Y X F.2.1 d) := by
  have hXl := hX.len
  have hYl := hY.len
  have hl8 : F.2.1.length ≤ 8 := Nat.le_trans (sp_sl_len _) hF.2.2
  have hcp := sp_cp_le X Y
  obtain ⟨w1, w2, w3⟩ := wr_abs X.length (by omega) Y.length (by omega)
  have hdep : M 23 g 2 = nI F.2.1.length := hF.1.2.2.1
  -- the four ways, with the flags same and near
  have whole : ∀ (v3 v4 v5 v6 : Int32), sp_rb Y X F.2.1 d = 255 :: (sp_two d ++ (sp_two X.length ++ (sp_tbs X ++ (sp_two F.2.1.length ++ sp_tbs F.2.1.reverse)))) → ∃ M', rr_wr_writeRow (0 + 1) 213 [some (.inr (26, 0)), some (.inr (23, g)), some (.inl (nI d)), some (.inl v3), some (.inl v4), some (.inl v5), some (.inl v6)] [] M = some M' ∧ zo_W 1 M M' ∧ rc_W M' 1 (B ++ sp_rb Y X F.2.1 d) := by
    intro v3 v4 v5 v6 he
    obtain ⟨M1, a1, a2, a3⟩ := sc_writeWhole hX hF hw hB hl hd
    rw [eq_wr_writeRow_213, a1, Option.bind_some, eq_wr_writeRow_219, he]
    exact ⟨M1, rfl, a2, a3⟩
  have near : ∀ (v3 v5 : Int32) (nr : Bool), nr = decide (sp_cp X Y = min X.length Y.length ∧ X.length ≤ Y.length + 3 ∧ Y.length ≤ X.length + 3) → ¬ (sp_cp X Y = min X.length Y.length ∧ X.length = Y.length ∧ F.2.1.length = 0) → ¬ (sp_cp X Y = min X.length Y.length ∧ X.length = Y.length ∧ F.2.1.length = 1) → ∃ M', rr_wr_writeRow (0 + 1) 152 [some (.inr (26, 0)), some (.inr (23, g)), some (.inl (nI d)), some (.inl v3), some (.inl (nI X.length - nI Y.length)), some (.inl v5), some (.inl (bI nr))] [] M = some M' ∧ zo_W 1 M M' ∧ rc_W M' 1 (B ++ sp_rb Y X F.2.1 d) := by
    intro v3 v5 nr hnr h0 h1
    rw [eq_wr_writeRow_152]
    simp only [nz_0, nz_1, nz_2, nz_3, nz_4, nz_5, nz_6, nz_7, nz_8, nz_9, nz_10, nz_11, nz_12, nz_13, nz_14, nz_15, nz_16, nz_17, nz_18, nz_19, nz_20, nz_21, nz_22, nz_23, nz_24, nz_25, nz_26, nz_27, nz_28, nz_29, nz_30, nz_31, nz_32, nz_33, nz_34, nz_35, nz_36, nz_37, nz_38, nz_39, nz_40, nz_41, nz_42, nz_43, nz_44, nz_45, nz_46, nz_47, nz_48, nz_49, nz_50, nz_51, nz_63, nz_64, nz_66, nz_127, nz_128, nz_246, nz_247, nz_248, nz_250, nz_251, nz_252, nz_254, nz_255, nz_256, nz_400, nz_2500, bI_0]
    rw [hdep]
    by_cases en : sp_cp X Y = min X.length Y.length ∧ X.length ≤ Y.length + 3 ∧ Y.length ≤ X.length + 3
    · rw [if_neg (by rw [hnr, decide_eq_true en]; decide)]
      by_cases ed : F.2.1.length = 0
      · rw [if_pos (by rw [ed]), w3 en.2.1 en.2.2]
        obtain ⟨M1, a1, a2, a3⟩ := sc_put (x := 251 + X.length - Y.length) hB (by omega)
        obtain ⟨M2, b1, b2, b3⟩ := sc_putTwo (v := d) a3 (by simp; omega) (by omega)
        have z2 := a2.tr b2
        have hX2 := z2.L hX
        have hY2 := z2.L hY
        obtain ⟨M3, c1, c2, c3⟩ := sc_writeTypesA (i := Y.length) (by omega) hX2 b3 (by simp [sp_two_len]; omega)
        rw [a1, Option.bind_some, b1, Option.bind_some, hY2.1, hX2.1, c1, Option.bind_some, eq_wr_writeRow_219]
        refine ⟨M3, rfl, z2.tr c2, ?_⟩
        unfold sp_rb
        rw [if_neg h0, if_neg h1, if_pos ⟨en.1, en.2.1, en.2.2, ed⟩]
        simp only [List.append_assoc, List.singleton_append, List.cons_append] at c3 ⊢
        exact c3
      · rw [if_neg (ni_ne ed (by omega) (by omega))]
        refine whole _ _ _ _ ?_
        unfold sp_rb
        rw [if_neg h0, if_neg h1, if_neg (fun q => ed q.2.2.2)]
    · rw [if_pos (by rw [hnr, decide_eq_false en])]
      refine whole _ _ _ _ ?_
      unfold sp_rb
      rw [if_neg h0, if_neg h1, if_neg (fun q => en ⟨q.1, q.2.1, q.2.2.1⟩)]
  have mid : ∀ (sm nr : Bool), sm = decide (sp_cp X Y = min X.length Y.length ∧ X.length = Y.length) → nr = decide (sp_cp X Y = min X.length Y.length ∧ X.length ≤ Y.length + 3 ∧ Y.length ≤ X.length + 3) → ∃ M', rr_wr_writeRow (0 + 1) 87 [some (.inr (26, 0)), some (.inr (23, g)), some (.inl (nI d)), some (.inl (nI (sp_cp X Y))), some (.inl (nI X.length - nI Y.length)), some (.inl (bI sm)), none] [.inl (bI nr)] M = some M' ∧ zo_W 1 M M' ∧ rc_W M' 1 (B ++ sp_rb Y X F.2.1 d) := by
    intro sm nr hsm hnr
    rw [eq_wr_writeRow_87]
    simp only [nz_0, nz_1, nz_2, nz_3, nz_4, nz_5, nz_6, nz_7, nz_8, nz_9, nz_10, nz_11, nz_12, nz_13, nz_14, nz_15, nz_16, nz_17, nz_18, nz_19, nz_20, nz_21, nz_22, nz_23, nz_24, nz_25, nz_26, nz_27, nz_28, nz_29, nz_30, nz_31, nz_32, nz_33, nz_34, nz_35, nz_36, nz_37, nz_38, nz_39, nz_40, nz_41, nz_42, nz_43, nz_44, nz_45, nz_46, nz_47, nz_48, nz_49, nz_50, nz_51, nz_63, nz_64, nz_66, nz_127, nz_128, nz_246, nz_247, nz_248, nz_250, nz_251, nz_252, nz_254, nz_255, nz_256, nz_400, nz_2500, bI_0]
    rw [hdep]
    by_cases es : sp_cp X Y = min X.length Y.length ∧ X.length = Y.length
    · rw [if_neg (by rw [hsm, decide_eq_true es]; decide)]
      by_cases e0 : F.2.1.length = 0
      · rw [if_pos (by rw [e0])]
        obtain ⟨M1, a1, a2, a3⟩ := sc_head (a := 0) (w := 251) (d := d) hB (by omega) hd
        rw [a1, Option.bind_some, eq_wr_writeRow_219]
        refine ⟨M1, rfl, a2, ?_⟩
        unfold sp_rb
        rw [if_pos ⟨es.1, es.2, e0⟩]
        rw [Nat.zero_add] at a3
        exact a3
      · rw [if_neg (ni_ne e0 (by omega) (by omega)), eq_wr_writeRow_113]
        simp only [nz_0, nz_1, nz_2, nz_3, nz_4, nz_5, nz_6, nz_7, nz_8, nz_9, nz_10, nz_11, nz_12, nz_13, nz_14, nz_15, nz_16, nz_17, nz_18, nz_19, nz_20, nz_21, nz_22, nz_23, nz_24, nz_25, nz_26, nz_27, nz_28, nz_29, nz_30, nz_31, nz_32, nz_33, nz_34, nz_35, nz_36, nz_37, nz_38, nz_39, nz_40, nz_41, nz_42, nz_43, nz_44, nz_45, nz_46, nz_47, nz_48, nz_49, nz_50, nz_51, nz_63, nz_64, nz_66, nz_127, nz_128, nz_246, nz_247, nz_248, nz_250, nz_251, nz_252, nz_254, nz_255, nz_256, nz_400, nz_2500, bI_0]
        rw [if_neg (by rw [hsm, decide_eq_true es]; decide), hdep]
        by_cases e1 : F.2.1.length = 1
        · rw [if_pos (by rw [e1])]
          obtain ⟨M1, a1, a2, a3⟩ := sc_head (a := 64) (w := 247) (d := d) hB (by omega) hd
          have hF1 := a2.F hF
          obtain ⟨t, ht⟩ : ∃ t, F.2.1 = [t] := List.length_eq_one_iff.mp e1
          have htl := sp_wt_lt (hw.2 t (by rw [ht]; exact List.mem_singleton.mpr rfl))
          have h25 : M1 25 g 0 = nI t := by
            rw [hF1.1.2.2.2.1 0 (by omega), ht]
            rfl
          rw [a1, Option.bind_some, if_neg (by decide), nI_clamp (by omega), h25]
          have hlen : (B ++ (if d < 64 then [64 + d] else 247 :: sp_two d)).length < 2 ^ 28 := by
            rw [List.length_append]
            split <;> simp [sp_two_len] <;> omega
          obtain ⟨M2, b1, b2, b3⟩ := sc_putType (t := t) a3 hlen (by omega)
          rw [b1, Option.bind_some, eq_wr_writeRow_219]
          refine ⟨M2, rfl, a2.tr b2, ?_⟩
          unfold sp_rb
          rw [if_neg (fun q => e0 q.2.2), if_pos ⟨es.1, es.2, e1⟩, ht, ← List.append_assoc]
          have : sp_tbs [t] = sp_tb t := by unfold sp_tbs; simp
          rw [this]
          exact b3
        · rw [if_neg (ni_ne e1 (by omega) (by omega))]
          exact near _ _ nr hnr (fun q => e0 q.2.2) (fun q => e1 q.2.2)
    · rw [if_pos (by rw [hsm, decide_eq_false es]), eq_wr_writeRow_113]
      simp only [nz_0, nz_1, nz_2, nz_3, nz_4, nz_5, nz_6, nz_7, nz_8, nz_9, nz_10, nz_11, nz_12, nz_13, nz_14, nz_15, nz_16, nz_17, nz_18, nz_19, nz_20, nz_21, nz_22, nz_23, nz_24, nz_25, nz_26, nz_27, nz_28, nz_29, nz_30, nz_31, nz_32, nz_33, nz_34, nz_35, nz_36, nz_37, nz_38, nz_39, nz_40, nz_41, nz_42, nz_43, nz_44, nz_45, nz_46, nz_47, nz_48, nz_49, nz_50, nz_51, nz_63, nz_64, nz_66, nz_127, nz_128, nz_246, nz_247, nz_248, nz_250, nz_251, nz_252, nz_254, nz_255, nz_256, nz_400, nz_2500, bI_0]
      rw [if_pos (by rw [hsm, decide_eq_false es])]
      exact near _ _ nr hnr (fun q => es ⟨q.1, q.2.1⟩) (fun q => es ⟨q.1, q.2.1⟩)
  have mid0 : ∀ (sm : Bool), sm = decide (sp_cp X Y = min X.length Y.length ∧ X.length = Y.length) → ∃ M', rr_wr_writeRow (0 + 1) 50 [some (.inr (26, 0)), some (.inr (23, g)), some (.inl (nI d)), some (.inl (nI (sp_cp X Y))), some (.inl (nI X.length - nI Y.length)), none, none] [.inl (bI sm)] M = some M' ∧ zo_W 1 M M' ∧ rc_W M' 1 (B ++ sp_rb Y X F.2.1 d) := by
    intro sm hsm
    have hab : zm_ab [.inl (nI X.length - nI Y.length)] M = some (if (0 : Int32) ≤ nI X.length - nI Y.length then nI X.length - nI Y.length else 0 - (nI X.length - nI Y.length), M) := rfl
    rw [eq_wr_writeRow_50, hab, Option.bind_some]
    dsimp only
    rw [nz_3]
    by_cases e : X.length ≤ Y.length + 3 ∧ Y.length ≤ X.length + 3
    · rw [if_neg (fun q => w1.mp q e), hX.1, hY.1, zm_mn_e (by omega) (by omega), Option.bind_some]
      dsimp only
      by_cases ec : sp_cp X Y = min X.length Y.length
      · rw [if_pos (by rw [ec]), nz_1]
        exact mid sm true hsm (by rw [decide_eq_true ⟨ec, e⟩])
      · rw [if_neg (ni_ne ec (by omega) (by omega)), eq_wr_writeRow_86, nz_0]
        exact mid sm false hsm (by rw [decide_eq_false (fun q => ec q.1)])
    · rw [if_pos (w1.mpr e), eq_wr_writeRow_86, nz_0]
      exact mid sm false hsm (by rw [decide_eq_false (fun q => e q.2)])
  rw [eq_wr_writeRow, show ∀ lo Q, rr_wr_writeRow 1 0 lo [] Q = rr_wr_writeRow (0 + 1) 0 lo [] Q from fun _ _ => rfl, eq_wr_writeRow_0, sc_shared hX hY]
  simp only [Option.bind_some, nz_0, nz_1, nz_2, nz_3, nz_4, nz_5, nz_6, nz_7, nz_8, nz_9, nz_10, nz_11, nz_12, nz_13, nz_14, nz_15, nz_16, nz_17, nz_18, nz_19, nz_20, nz_21, nz_22, nz_23, nz_24, nz_25, nz_26, nz_27, nz_28, nz_29, nz_30, nz_31, nz_32, nz_33, nz_34, nz_35, nz_36, nz_37, nz_38, nz_39, nz_40, nz_41, nz_42, nz_43, nz_44, nz_45, nz_46, nz_47, nz_48, nz_49, nz_50, nz_51, nz_63, nz_64, nz_66, nz_127, nz_128, nz_246, nz_247, nz_248, nz_250, nz_251, nz_252, nz_254, nz_255, nz_256, nz_400, nz_2500]
  rw [hX.1, hY.1]
  by_cases el : X.length = Y.length
  · rw [if_pos (w2.mpr el)]
    by_cases ec : sp_cp X Y = X.length
    · rw [if_pos (by rw [ec])]
      exact mid0 true (by rw [decide_eq_true (by omega)])
    · rw [if_neg (ni_ne ec (by omega) (by omega)), eq_wr_writeRow_49, nz_0]
      exact mid0 false (by rw [decide_eq_false (by omega)])
  · rw [if_neg (fun q => el (w2.mp q)), eq_wr_writeRow_49, nz_0]
    exact mid0 false (by rw [decide_eq_false (fun q => el q.2)])
