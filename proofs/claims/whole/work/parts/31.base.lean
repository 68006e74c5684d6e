/-! numbers -/
def bI (b : Bool) : Int32 := nI b.toNat
theorem nz_0 : (0 : Int32) = nI 0 := by decide
theorem nz_1 : (1 : Int32) = nI 1 := by decide
theorem nz_2 : (2 : Int32) = nI 2 := by decide
theorem nz_3 : (3 : Int32) = nI 3 := by decide
theorem nz_4 : (4 : Int32) = nI 4 := by decide
theorem nz_5 : (5 : Int32) = nI 5 := by decide
theorem nz_6 : (6 : Int32) = nI 6 := by decide
theorem nz_7 : (7 : Int32) = nI 7 := by decide
theorem nz_8 : (8 : Int32) = nI 8 := by decide
theorem nz_9 : (9 : Int32) = nI 9 := by decide
theorem nz_10 : (10 : Int32) = nI 10 := by decide
theorem nz_11 : (11 : Int32) = nI 11 := by decide
theorem nz_12 : (12 : Int32) = nI 12 := by decide
theorem nz_13 : (13 : Int32) = nI 13 := by decide
theorem nz_14 : (14 : Int32) = nI 14 := by decide
theorem nz_15 : (15 : Int32) = nI 15 := by decide
theorem nz_16 : (16 : Int32) = nI 16 := by decide
theorem nz_17 : (17 : Int32) = nI 17 := by decide
theorem nz_18 : (18 : Int32) = nI 18 := by decide
theorem nz_19 : (19 : Int32) = nI 19 := by decide
theorem nz_20 : (20 : Int32) = nI 20 := by decide
theorem nz_21 : (21 : Int32) = nI 21 := by decide
theorem nz_22 : (22 : Int32) = nI 22 := by decide
theorem nz_23 : (23 : Int32) = nI 23 := by decide
theorem nz_24 : (24 : Int32) = nI 24 := by decide
theorem nz_25 : (25 : Int32) = nI 25 := by decide
theorem nz_26 : (26 : Int32) = nI 26 := by decide
theorem nz_27 : (27 : Int32) = nI 27 := by decide
theorem nz_28 : (28 : Int32) = nI 28 := by decide
theorem nz_29 : (29 : Int32) = nI 29 := by decide
theorem nz_30 : (30 : Int32) = nI 30 := by decide
theorem nz_31 : (31 : Int32) = nI 31 := by decide
theorem nz_32 : (32 : Int32) = nI 32 := by decide
theorem nz_33 : (33 : Int32) = nI 33 := by decide
theorem nz_34 : (34 : Int32) = nI 34 := by decide
theorem nz_35 : (35 : Int32) = nI 35 := by decide
theorem nz_36 : (36 : Int32) = nI 36 := by decide
theorem nz_37 : (37 : Int32) = nI 37 := by decide
theorem nz_38 : (38 : Int32) = nI 38 := by decide
theorem nz_39 : (39 : Int32) = nI 39 := by decide
theorem nz_40 : (40 : Int32) = nI 40 := by decide
theorem nz_41 : (41 : Int32) = nI 41 := by decide
theorem nz_42 : (42 : Int32) = nI 42 := by decide
theorem nz_43 : (43 : Int32) = nI 43 := by decide
theorem nz_44 : (44 : Int32) = nI 44 := by decide
theorem nz_45 : (45 : Int32) = nI 45 := by decide
theorem nz_46 : (46 : Int32) = nI 46 := by decide
theorem nz_47 : (47 : Int32) = nI 47 := by decide
theorem nz_48 : (48 : Int32) = nI 48 := by decide
theorem nz_49 : (49 : Int32) = nI 49 := by decide
theorem nz_50 : (50 : Int32) = nI 50 := by decide
theorem nz_51 : (51 : Int32) = nI 51 := by decide
theorem nz_63 : (63 : Int32) = nI 63 := by decide
theorem nz_64 : (64 : Int32) = nI 64 := by decide
theorem nz_66 : (66 : Int32) = nI 66 := by decide
theorem nz_127 : (127 : Int32) = nI 127 := by decide
theorem nz_128 : (128 : Int32) = nI 128 := by decide
theorem nz_246 : (246 : Int32) = nI 246 := by decide
theorem nz_247 : (247 : Int32) = nI 247 := by decide
theorem nz_248 : (248 : Int32) = nI 248 := by decide
theorem nz_250 : (250 : Int32) = nI 250 := by decide
theorem nz_251 : (251 : Int32) = nI 251 := by decide
theorem nz_252 : (252 : Int32) = nI 252 := by decide
theorem nz_254 : (254 : Int32) = nI 254 := by decide
theorem nz_255 : (255 : Int32) = nI 255 := by decide
theorem nz_256 : (256 : Int32) = nI 256 := by decide
theorem nz_400 : (400 : Int32) = nI 400 := by decide
theorem nz_2500 : (2500 : Int32) = nI 2500 := by decide
theorem zu_s {M : zm_M} {s i k s' : Nat} {x : Int32} (h : s' ≠ s) : zm_up M s i k x s' = M s' := by
  funext i' k'
  unfold zm_up
  rw [if_neg h]
theorem zu_k {M : zm_M} {s i k s' i' k' : Nat} {x : Int32} (h : k' ≠ k) : zm_up M s i k x s' i' k' = M s' i' k' := by
  unfold zm_up
  simp [h]
theorem zu_i {M : zm_M} {s i k s' i' : Nat} {x : Int32} (h : i' ≠ i) : zm_up M s i k x s' i' = M s' i' := by
  funext k'
  unfold zm_up
  simp [h]
theorem zu_e {M : zm_M} {s i k : Nat} {x : Int32} : zm_up M s i k x s i k = x := by
  unfold zm_up
  simp
theorem kd_nI {t : Nat} (h : t < 2 ^ 31) : nI t &&& nI 15 = nI (sp_kd t) := pk_andN (by omega) 4 (by decide)
theorem pt_nI {t : Nat} (h : t < 2 ^ 31) : nI t >>> (nI 4 &&& nI 31) = nI (sp_pt t) := pk_shrN h _ 4 (by decide)
theorem sp_kd_lt (t : Nat) : sp_kd t < 16 := Nat.mod_lt _ (by decide)
theorem sp_pt_le (t : Nat) : sp_pt t ≤ t := Nat.div_le_self _ _
/-! the class's little functions -/
theorem sc_kind {t : Nat} (h : t < 2 ^ 31) (M : zm_M) : fn_mf_kindOf [.inl (nI t)] M = some (nI (sp_kd t), M) := by
  rw [eq_mf_kindOf]
  simp only [nz_15, kd_nI h]
theorem sc_part {t : Nat} (h : t < 2 ^ 31) (M : zm_M) : fn_mf_partOf [.inl (nI t)] M = some (nI (sp_pt t), M) := by
  rw [eq_mf_partOf]
  simp only [nz_4, nz_31, pt_nI h]
theorem sc_type {k c : Nat} (M : zm_M) : fn_mf_typeOf [.inl (nI k), .inl (nI c)] M = some (nI (16 * c + k), M) := by
  rw [eq_mf_typeOf]
  simp only [nz_16, pk_mul, nI_add]
theorem sc_width {t : Nat} (h : t < 2 ^ 31) (M : zm_M) : fn_mf_widthOf [.inl (nI t)] M = some (nI (sp_wd t), M) := by
  rw [eq_mf_widthOf]
  simp (disch := omega) only [nz_0, nz_1, nz_2, nz_3, nz_4, nz_5, nz_6, nz_7, nz_8, nz_9, nz_10, nz_11, nz_12, nz_13, nz_14, nz_15, nz_16, nz_17, nz_18, nz_19, nz_20, nz_21, nz_22, nz_23, nz_24, nz_25, nz_26, nz_27, nz_28, nz_29, nz_30, nz_31, nz_32, nz_33, nz_34, nz_35, nz_36, nz_37, nz_38, nz_39, nz_40, nz_41, nz_42, nz_43, nz_44, nz_45, nz_46, nz_47, nz_48, nz_49, nz_50, nz_51, nz_63, nz_64, nz_66, nz_127, nz_128, nz_246, nz_247, nz_248, nz_250, nz_251, nz_252, nz_254, nz_255, nz_256, nz_400, nz_2500, nI_eq, nI_ltI, nI_leI, nI_add, nI_clamp, pk_mul]
  unfold sp_wd
  by_cases h3 : t = 3
  · simp [h3]
  · by_cases h4 : t = 4 <;> simp [h3, h4]
theorem rs_t {α : Type} {b : Bool} {M : α} (h : b = true) : some (nI 1, M) = some (bI b, M) := by rw [h]; rfl
theorem rs_f {α : Type} {b : Bool} {M : α} (h : b = false) : some (nI 0, M) = some (bI b, M) := by rw [h]; rfl
theorem sc_small {t : Nat} (h : t < 2 ^ 31) (M : zm_M) : fn_mf_isSmall [.inl (nI t)] M = some (bI (sp_sm t), M) := by
  have hk := sp_kd_lt t
  rw [eq_mf_isSmall, sc_kind h]
  simp (disch := omega) only [Option.bind_some, nz_0, nz_1, nz_2, nz_3, nz_4, nz_5, nz_6, nz_7, nz_8, nz_9, nz_10, nz_11, nz_12, nz_13, nz_14, nz_15, nz_16, nz_17, nz_18, nz_19, nz_20, nz_21, nz_22, nz_23, nz_24, nz_25, nz_26, nz_27, nz_28, nz_29, nz_30, nz_31, nz_32, nz_33, nz_34, nz_35, nz_36, nz_37, nz_38, nz_39, nz_40, nz_41, nz_42, nz_43, nz_44, nz_45, nz_46, nz_47, nz_48, nz_49, nz_50, nz_51, nz_63, nz_64, nz_66, nz_127, nz_128, nz_246, nz_247, nz_248, nz_250, nz_251, nz_252, nz_254, nz_255, nz_256, nz_400, nz_2500, nI_eq, nI_ltI, nI_leI, nI_add, nI_clamp, pk_mul]
  unfold sp_sm
  split
  · exact rs_t (by simp only [Bool.or_eq_true, beq_iff_eq, Bool.and_eq_true, decide_eq_true_eq]; omega)
  · split
    · exact rs_t (by simp only [Bool.or_eq_true, beq_iff_eq, Bool.and_eq_true, decide_eq_true_eq]; omega)
    · split
      · exact rs_f (by simp only [Bool.or_eq_false_iff, beq_eq_false_iff_ne, Bool.and_eq_false_iff, decide_eq_false_iff_not, ne_eq]; omega)
      · split
        · exact rs_f (by simp only [Bool.or_eq_false_iff, beq_eq_false_iff_ne, Bool.and_eq_false_iff, decide_eq_false_iff_not, ne_eq]; omega)
        · exact rs_t (by simp only [Bool.or_eq_true, beq_iff_eq, Bool.and_eq_true, decide_eq_true_eq]; omega)
theorem sc_ofRef {t : Nat} (h : t < 2 ^ 31) (M : zm_M) : fn_mf_isOfKind [.inl (nI t), .inl (nI 7)] M = some (bI (sp_rf t), M) := by
  have hk := sp_kd_lt t
  rw [eq_mf_isOfKind, sc_kind h]
  simp (disch := omega) only [Option.bind_some, nz_0, nz_1, nz_2, nz_3, nz_4, nz_5, nz_6, nz_7, nz_8, nz_9, nz_10, nz_11, nz_12, nz_13, nz_14, nz_15, nz_16, nz_17, nz_18, nz_19, nz_20, nz_21, nz_22, nz_23, nz_24, nz_25, nz_26, nz_27, nz_28, nz_29, nz_30, nz_31, nz_32, nz_33, nz_34, nz_35, nz_36, nz_37, nz_38, nz_39, nz_40, nz_41, nz_42, nz_43, nz_44, nz_45, nz_46, nz_47, nz_48, nz_49, nz_50, nz_51, nz_63, nz_64, nz_66, nz_127, nz_128, nz_246, nz_247, nz_248, nz_250, nz_251, nz_252, nz_254, nz_255, nz_256, nz_400, nz_2500, nI_eq, nI_ltI, nI_leI, nI_add, nI_clamp, pk_mul, if_true, sc_kind h]
  unfold sp_rf
  split
  · exact rs_f (by simp only [Bool.or_eq_false_iff, beq_eq_false_iff_ne, Bool.and_eq_false_iff, decide_eq_false_iff_not, ne_eq]; omega)
  · split
    · exact rs_f (by simp only [Bool.or_eq_false_iff, beq_eq_false_iff_ne, Bool.and_eq_false_iff, decide_eq_false_iff_not, ne_eq]; omega)
    · exact rs_t (by simp only [Bool.or_eq_true, beq_iff_eq, Bool.and_eq_true, decide_eq_true_eq]; omega)
theorem sc_ofKind {t k : Nat} (h : t < 2 ^ 31) (hk : k < 7) (M : zm_M) : fn_mf_isOfKind [.inl (nI t), .inl (nI k)] M = some (bI (t == k), M) := by
  rw [eq_mf_isOfKind]
  simp (disch := omega) only [nz_0, nz_1, nz_2, nz_3, nz_4, nz_5, nz_6, nz_7, nz_8, nz_9, nz_10, nz_11, nz_12, nz_13, nz_14, nz_15, nz_16, nz_17, nz_18, nz_19, nz_20, nz_21, nz_22, nz_23, nz_24, nz_25, nz_26, nz_27, nz_28, nz_29, nz_30, nz_31, nz_32, nz_33, nz_34, nz_35, nz_36, nz_37, nz_38, nz_39, nz_40, nz_41, nz_42, nz_43, nz_44, nz_45, nz_46, nz_47, nz_48, nz_49, nz_50, nz_51, nz_63, nz_64, nz_66, nz_127, nz_128, nz_246, nz_247, nz_248, nz_250, nz_251, nz_252, nz_254, nz_255, nz_256, nz_400, nz_2500, nI_eq, nI_ltI, nI_leI, nI_add, nI_clamp, pk_mul]
  rw [if_neg (by omega)]
  split
  · exact rs_t (by simp only [Bool.or_eq_true, beq_iff_eq, Bool.and_eq_true, decide_eq_true_eq]; omega)
  · exact rs_f (by simp only [Bool.or_eq_false_iff, beq_eq_false_iff_ne, Bool.and_eq_false_iff, decide_eq_false_iff_not, ne_eq]; omega)
theorem sc_oon {t : Nat} (h : t < 2 ^ 31) (M : zm_M) : fn_mf_isObjectOrNull [.inl (nI t)] M = some (bI (sp_op t), M) := by
  have hk := sp_kd_lt t
  rw [eq_mf_isObjectOrNull, sc_kind h]
  simp (disch := omega) only [Option.bind_some, nz_0, nz_1, nz_2, nz_3, nz_4, nz_5, nz_6, nz_7, nz_8, nz_9, nz_10, nz_11, nz_12, nz_13, nz_14, nz_15, nz_16, nz_17, nz_18, nz_19, nz_20, nz_21, nz_22, nz_23, nz_24, nz_25, nz_26, nz_27, nz_28, nz_29, nz_30, nz_31, nz_32, nz_33, nz_34, nz_35, nz_36, nz_37, nz_38, nz_39, nz_40, nz_41, nz_42, nz_43, nz_44, nz_45, nz_46, nz_47, nz_48, nz_49, nz_50, nz_51, nz_63, nz_64, nz_66, nz_127, nz_128, nz_246, nz_247, nz_248, nz_250, nz_251, nz_252, nz_254, nz_255, nz_256, nz_400, nz_2500, nI_eq, nI_ltI, nI_leI, nI_add, nI_clamp, pk_mul]
  unfold sp_op
  split
  · exact rs_t (by simp only [Bool.or_eq_true, beq_iff_eq, Bool.and_eq_true, decide_eq_true_eq]; omega)
  · split
    · exact rs_t (by simp only [Bool.or_eq_true, beq_iff_eq, Bool.and_eq_true, decide_eq_true_eq]; omega)
    · exact rs_f (by simp only [Bool.or_eq_false_iff, beq_eq_false_iff_ne, Bool.and_eq_false_iff, decide_eq_false_iff_not, ne_eq]; omega)
theorem sc_isEnd {o : Nat} (h : o < 2 ^ 31) (M : zm_M) : fn_mf_isEnd [.inl (nI o)] M = some (bI (sp_end o), M) := by
  rw [eq_mf_isEnd]
  simp (disch := omega) only [nz_0, nz_1, nz_2, nz_3, nz_4, nz_5, nz_6, nz_7, nz_8, nz_9, nz_10, nz_11, nz_12, nz_13, nz_14, nz_15, nz_16, nz_17, nz_18, nz_19, nz_20, nz_21, nz_22, nz_23, nz_24, nz_25, nz_26, nz_27, nz_28, nz_29, nz_30, nz_31, nz_32, nz_33, nz_34, nz_35, nz_36, nz_37, nz_38, nz_39, nz_40, nz_41, nz_42, nz_43, nz_44, nz_45, nz_46, nz_47, nz_48, nz_49, nz_50, nz_51, nz_63, nz_64, nz_66, nz_127, nz_128, nz_246, nz_247, nz_248, nz_250, nz_251, nz_252, nz_254, nz_255, nz_256, nz_400, nz_2500, nI_eq, nI_ltI, nI_leI, nI_add, nI_clamp, pk_mul]
  unfold sp_end
  repeat' split
  all_goals first | exact rs_t (by simp only [Bool.or_eq_true, beq_iff_eq, Bool.and_eq_true, decide_eq_true_eq]; omega) | exact rs_f (by simp only [Bool.or_eq_false_iff, beq_eq_false_iff_ne, Bool.and_eq_false_iff, decide_eq_false_iff_not, ne_eq]; omega)
theorem sc_isJump {o : Nat} (h : o < 2 ^ 31) (M : zm_M) : fn_mf_isJump [.inl (nI o)] M = some (bI (sp_jmp o), M) := by
  rw [eq_mf_isJump]
  simp (disch := omega) only [nz_0, nz_1, nz_2, nz_3, nz_4, nz_5, nz_6, nz_7, nz_8, nz_9, nz_10, nz_11, nz_12, nz_13, nz_14, nz_15, nz_16, nz_17, nz_18, nz_19, nz_20, nz_21, nz_22, nz_23, nz_24, nz_25, nz_26, nz_27, nz_28, nz_29, nz_30, nz_31, nz_32, nz_33, nz_34, nz_35, nz_36, nz_37, nz_38, nz_39, nz_40, nz_41, nz_42, nz_43, nz_44, nz_45, nz_46, nz_47, nz_48, nz_49, nz_50, nz_51, nz_63, nz_64, nz_66, nz_127, nz_128, nz_246, nz_247, nz_248, nz_250, nz_251, nz_252, nz_254, nz_255, nz_256, nz_400, nz_2500, nI_eq, nI_ltI, nI_leI, nI_add, nI_clamp, pk_mul]
  unfold sp_jmp
  repeat' split
  all_goals first | exact rs_t (by simp only [Bool.or_eq_true, beq_iff_eq, Bool.and_eq_true, decide_eq_true_eq]; omega) | exact rs_f (by simp only [Bool.or_eq_false_iff, beq_eq_false_iff_ne, Bool.and_eq_false_iff, decide_eq_false_iff_not, ne_eq]; omega)
theorem sc_length {o : Nat} (h : o < 2 ^ 31) (M : zm_M) : fn_mf_lengthOf [.inl (nI o)] M = some (nI (sp_len o), M) := by
  rw [eq_mf_lengthOf]
  simp (disch := omega) only [nz_0, nz_1, nz_2, nz_3, nz_4, nz_5, nz_6, nz_7, nz_8, nz_9, nz_10, nz_11, nz_12, nz_13, nz_14, nz_15, nz_16, nz_17, nz_18, nz_19, nz_20, nz_21, nz_22, nz_23, nz_24, nz_25, nz_26, nz_27, nz_28, nz_29, nz_30, nz_31, nz_32, nz_33, nz_34, nz_35, nz_36, nz_37, nz_38, nz_39, nz_40, nz_41, nz_42, nz_43, nz_44, nz_45, nz_46, nz_47, nz_48, nz_49, nz_50, nz_51, nz_63, nz_64, nz_66, nz_127, nz_128, nz_246, nz_247, nz_248, nz_250, nz_251, nz_252, nz_254, nz_255, nz_256, nz_400, nz_2500, nI_eq, nI_ltI, nI_leI, nI_add, nI_clamp, pk_mul]
  unfold sp_len
  by_cases a : 20 < o
  · by_cases b : 30 < o
    · simp [a, b, show ¬ o ≤ 20 by omega, show ¬ o ≤ 30 by omega]
    · simp [a, b, show ¬ o ≤ 20 by omega, show o ≤ 30 by omega]
  · simp [a, show o ≤ 20 by omega]
theorem sc_hasLocal {o : Nat} (h : o < 2 ^ 31) (M : zm_M) : fn_mf_hasLocal [.inl (nI o)] M = some (bI (decide (21 ≤ o) && decide (o ≤ 30)), M) := by
  rw [eq_mf_hasLocal]
  simp (disch := omega) only [nz_0, nz_1, nz_2, nz_3, nz_4, nz_5, nz_6, nz_7, nz_8, nz_9, nz_10, nz_11, nz_12, nz_13, nz_14, nz_15, nz_16, nz_17, nz_18, nz_19, nz_20, nz_21, nz_22, nz_23, nz_24, nz_25, nz_26, nz_27, nz_28, nz_29, nz_30, nz_31, nz_32, nz_33, nz_34, nz_35, nz_36, nz_37, nz_38, nz_39, nz_40, nz_41, nz_42, nz_43, nz_44, nz_45, nz_46, nz_47, nz_48, nz_49, nz_50, nz_51, nz_63, nz_64, nz_66, nz_127, nz_128, nz_246, nz_247, nz_248, nz_250, nz_251, nz_252, nz_254, nz_255, nz_256, nz_400, nz_2500, nI_eq, nI_ltI, nI_leI, nI_add, nI_clamp, pk_mul]
  repeat' split
  all_goals first | exact rs_t (by simp only [Bool.or_eq_true, beq_iff_eq, Bool.and_eq_true, decide_eq_true_eq]; omega) | exact rs_f (by simp only [Bool.or_eq_false_iff, beq_eq_false_iff_ne, Bool.and_eq_false_iff, decide_eq_false_iff_not, ne_eq]; omega)
/-! the reference's little functions -/
theorem so_in {a b c : Nat} (ha : a < 2 ^ 31) (hb : b < 2 ^ 31) (hc : c < 2 ^ 31) (M : zm_M) : fn_mo_in [.inl (nI a), .inl (nI b), .inl (nI c)] M = some (bI (decide (b ≤ a) && decide (a ≤ c)), M) := by
  rw [eq_mo_in]
  simp (disch := omega) only [nz_0, nz_1, nz_2, nz_3, nz_4, nz_5, nz_6, nz_7, nz_8, nz_9, nz_10, nz_11, nz_12, nz_13, nz_14, nz_15, nz_16, nz_17, nz_18, nz_19, nz_20, nz_21, nz_22, nz_23, nz_24, nz_25, nz_26, nz_27, nz_28, nz_29, nz_30, nz_31, nz_32, nz_33, nz_34, nz_35, nz_36, nz_37, nz_38, nz_39, nz_40, nz_41, nz_42, nz_43, nz_44, nz_45, nz_46, nz_47, nz_48, nz_49, nz_50, nz_51, nz_63, nz_64, nz_66, nz_127, nz_128, nz_246, nz_247, nz_248, nz_250, nz_251, nz_252, nz_254, nz_255, nz_256, nz_400, nz_2500, nI_eq, nI_ltI, nI_leI, nI_add, nI_clamp, pk_mul]
  repeat' split
  all_goals first | exact rs_t (by simp only [Bool.or_eq_true, beq_iff_eq, Bool.and_eq_true, decide_eq_true_eq]; omega) | exact rs_f (by simp only [Bool.or_eq_false_iff, beq_eq_false_iff_ne, Bool.and_eq_false_iff, decide_eq_false_iff_not, ne_eq]; omega)
theorem so_kind {t : Nat} (h : t < 2 ^ 31) (M : zm_M) : fn_mo_kind [.inl (nI t)] M = some (nI (sp_kd t), M) := by
  rw [eq_mo_kind]
  simp only [nz_15, kd_nI h]
theorem sp_wd2 (t : Nat) : (sp_wd t == 2) = (t == 3 || t == 4) := by
  unfold sp_wd
  by_cases h3 : t = 3
  · simp [h3]
  · by_cases h4 : t = 4 <;> simp [h3, h4]
theorem so_wide {t : Nat} (h : t < 2 ^ 31) (M : zm_M) : fn_mo_isWide [.inl (nI t)] M = some (bI (sp_wd t == 2), M) := by
  rw [eq_mo_isWide, sp_wd2]
  simp (disch := omega) only [nz_0, nz_1, nz_2, nz_3, nz_4, nz_5, nz_6, nz_7, nz_8, nz_9, nz_10, nz_11, nz_12, nz_13, nz_14, nz_15, nz_16, nz_17, nz_18, nz_19, nz_20, nz_21, nz_22, nz_23, nz_24, nz_25, nz_26, nz_27, nz_28, nz_29, nz_30, nz_31, nz_32, nz_33, nz_34, nz_35, nz_36, nz_37, nz_38, nz_39, nz_40, nz_41, nz_42, nz_43, nz_44, nz_45, nz_46, nz_47, nz_48, nz_49, nz_50, nz_51, nz_63, nz_64, nz_66, nz_127, nz_128, nz_246, nz_247, nz_248, nz_250, nz_251, nz_252, nz_254, nz_255, nz_256, nz_400, nz_2500, nI_eq, nI_ltI, nI_leI, nI_add, nI_clamp, pk_mul]
  repeat' split
  all_goals first | exact rs_t (by simp only [Bool.or_eq_true, beq_iff_eq, Bool.and_eq_true, decide_eq_true_eq]; omega) | exact rs_f (by simp only [Bool.or_eq_false_iff, beq_eq_false_iff_ne, Bool.and_eq_false_iff, decide_eq_false_iff_not, ne_eq]; omega)
theorem so_sizeOf {o : Nat} (h : o < 2 ^ 31) (M : zm_M) : fn_mo_sizeOf [.inl (nI o)] M = some (nI (sp_len o), M) := by
  rw [eq_mo_sizeOf]
  simp (disch := omega) only [nz_0, nz_1, nz_2, nz_3, nz_4, nz_5, nz_6, nz_7, nz_8, nz_9, nz_10, nz_11, nz_12, nz_13, nz_14, nz_15, nz_16, nz_17, nz_18, nz_19, nz_20, nz_21, nz_22, nz_23, nz_24, nz_25, nz_26, nz_27, nz_28, nz_29, nz_30, nz_31, nz_32, nz_33, nz_34, nz_35, nz_36, nz_37, nz_38, nz_39, nz_40, nz_41, nz_42, nz_43, nz_44, nz_45, nz_46, nz_47, nz_48, nz_49, nz_50, nz_51, nz_63, nz_64, nz_66, nz_127, nz_128, nz_246, nz_247, nz_248, nz_250, nz_251, nz_252, nz_254, nz_255, nz_256, nz_400, nz_2500, nI_eq, nI_ltI, nI_leI, nI_add, nI_clamp, pk_mul]
  unfold sp_len
  by_cases a : 20 < o
  · by_cases b : 30 < o
    · simp [a, b, show ¬ o ≤ 20 by omega, show ¬ o ≤ 30 by omega]
    · simp [a, b, show ¬ o ≤ 20 by omega, show o ≤ 30 by omega]
  · simp [a, show o ≤ 20 by omega]
theorem so_isEnd {o : Nat} (h : o < 2 ^ 31) (M : zm_M) : fn_mo_isEnd [.inl (nI o)] M = some (bI (sp_end o), M) := by
  rw [eq_mo_isEnd]
  simp (disch := omega) only [nz_18, nz_20, so_in h (show 18 < 2 ^ 31 by decide) (show 20 < 2 ^ 31 by decide), Option.bind_some]
  unfold sp_end bI
  by_cases e : 18 ≤ o ∧ o ≤ 20
  · simp [e.1, e.2]
    rfl
  · have e2 : (decide (18 ≤ o) && decide (o ≤ 20)) = false := by simp only [Bool.and_eq_false_iff, decide_eq_false_iff_not]; omega
    simp (disch := omega) only [e2, Bool.toNat_false, nz_0, nz_1, nz_2, nz_3, nz_4, nz_5, nz_6, nz_7, nz_8, nz_9, nz_10, nz_11, nz_12, nz_13, nz_14, nz_15, nz_16, nz_17, nz_18, nz_19, nz_20, nz_21, nz_22, nz_23, nz_24, nz_25, nz_26, nz_27, nz_28, nz_29, nz_30, nz_31, nz_32, nz_33, nz_34, nz_35, nz_36, nz_37, nz_38, nz_39, nz_40, nz_41, nz_42, nz_43, nz_44, nz_45, nz_46, nz_47, nz_48, nz_49, nz_50, nz_51, nz_63, nz_64, nz_66, nz_127, nz_128, nz_246, nz_247, nz_248, nz_250, nz_251, nz_252, nz_254, nz_255, nz_256, nz_400, nz_2500, nI_eq, nI_ltI, nI_leI, nI_add, nI_clamp, pk_mul, if_true, Bool.false_or]
    split
    · exact rs_t (by simp only [Bool.or_eq_true, beq_iff_eq, Bool.and_eq_true, decide_eq_true_eq]; omega)
    · exact rs_f (by simp only [Bool.or_eq_false_iff, beq_eq_false_iff_ne, Bool.and_eq_false_iff, decide_eq_false_iff_not, ne_eq]; omega)
/-- a well formed TYPE -/
def sp_wt (t : Nat) : Prop := t < 7 ∨ (sp_kd t = 7 ∧ sp_pt t < 8) ∨ (sp_kd t = 8 ∧ sp_pt t < 65536)
theorem sp_wt_lt {t : Nat} (h : sp_wt t) : t < 2097152 := by unfold sp_wt sp_kd sp_pt at h; omega
theorem so_small {t : Nat} (h : sp_wt t) (M : zm_M) : fn_mo_isSmall [.inl (nI t)] M = some (bI (sp_sm t), M) := by
  have hl := sp_wt_lt h
  rw [eq_mo_isSmall, so_wide (by omega)]
  simp (disch := omega) only [Option.bind_some, nz_0, nz_1, nz_2, nz_3, nz_4, nz_5, nz_6, nz_7, nz_8, nz_9, nz_10, nz_11, nz_12, nz_13, nz_14, nz_15, nz_16, nz_17, nz_18, nz_19, nz_20, nz_21, nz_22, nz_23, nz_24, nz_25, nz_26, nz_27, nz_28, nz_29, nz_30, nz_31, nz_32, nz_33, nz_34, nz_35, nz_36, nz_37, nz_38, nz_39, nz_40, nz_41, nz_42, nz_43, nz_44, nz_45, nz_46, nz_47, nz_48, nz_49, nz_50, nz_51, nz_63, nz_64, nz_66, nz_127, nz_128, nz_246, nz_247, nz_248, nz_250, nz_251, nz_252, nz_254, nz_255, nz_256, nz_400, nz_2500, nI_eq, nI_ltI, nI_leI, nI_add, nI_clamp, pk_mul]
  rw [sp_wd2]
  unfold sp_wt at h
  unfold sp_sm bI
  by_cases e0 : 0 < t
  · by_cases e1 : t = 3 ∨ t = 4
    · have : (t == 3 || t == 4) = true := by simp [e1]
      simp (disch := omega) only [e0, this, if_true, Bool.toNat_true, nI_eq, nI_ltI, nI_leI, nI_add, nI_clamp, pk_mul]
      rw [if_neg (by decide)]
      refine rs_f ?_
      rcases e1 with rfl | rfl <;> decide
    · have : (t == 3 || t == 4) = false := by simp [e1]; omega
      simp (disch := omega) only [e0, this, if_true, Bool.toNat_false, nI_eq, nI_ltI, nI_leI, nI_add, nI_clamp, pk_mul]
      refine rs_t ?_
      unfold sp_kd sp_pt at h
      unfold sp_kd
      simp only [Bool.or_eq_true, beq_iff_eq, Bool.and_eq_true, decide_eq_true_eq]
      omega
  · have : t = 0 := by omega
    subst this
    rfl
theorem so_pointer {t : Nat} (h : sp_wt t) (M : zm_M) : fn_mo_isPointer [.inl (nI t)] M = some (bI (sp_op t), M) := by
  have hl := sp_wt_lt h
  have hk := sp_kd_lt t
  rw [eq_mo_isPointer, so_kind (by omega)]
  simp (disch := omega) only [Option.bind_some, nz_0, nz_1, nz_2, nz_3, nz_4, nz_5, nz_6, nz_7, nz_8, nz_9, nz_10, nz_11, nz_12, nz_13, nz_14, nz_15, nz_16, nz_17, nz_18, nz_19, nz_20, nz_21, nz_22, nz_23, nz_24, nz_25, nz_26, nz_27, nz_28, nz_29, nz_30, nz_31, nz_32, nz_33, nz_34, nz_35, nz_36, nz_37, nz_38, nz_39, nz_40, nz_41, nz_42, nz_43, nz_44, nz_45, nz_46, nz_47, nz_48, nz_49, nz_50, nz_51, nz_63, nz_64, nz_66, nz_127, nz_128, nz_246, nz_247, nz_248, nz_250, nz_251, nz_252, nz_254, nz_255, nz_256, nz_400, nz_2500, nI_eq, nI_ltI, nI_leI, nI_add, nI_clamp, pk_mul]
  unfold sp_op
  have h0 : sp_kd t = 7 → 0 < t := fun e => by unfold sp_kd at e; omega
  repeat' split
  all_goals first | exact rs_t (by simp only [Bool.or_eq_true, beq_iff_eq, Bool.and_eq_true, decide_eq_true_eq]; omega) | exact rs_f (by simp only [Bool.or_eq_false_iff, beq_eq_false_iff_ne, Bool.and_eq_false_iff, decide_eq_false_iff_not, ne_eq]; omega)
