/-- the class's classes: supers, faces, and the LINES as bits -/
def rc_C (P : sp_P) (M : zm_M) : Prop := (∀ c, c < 8 → M 2 0 c = nI (pg_sup P c)) ∧ (∀ c, c < 8 → M 3 0 c = bI (pg_face P c)) ∧ ∀ c d, c < 8 → d < 8 → ((M 4 0 d) >>> (nI c &&& nI 31)) &&& nI 1 = bI (sp_in (pg_sup P) 8 c d)
theorem sc_is {P : sp_P} {M : zm_M} (hM : rc_C P M) {x y : Nat} (hx : sp_wt x) (hy : sp_wt y) : fn_fa_is [.inr (1, 0), .inl (nI x), .inl (nI y)] M = some (bI (sp_is P x y), M) := by
  have hxl := sp_wt_lt hx
  have hyl := sp_wt_lt hy
  have hk := sp_kd_lt x
  have hk2 := sp_kd_lt y
  rw [eq_fa_is]
  simp (disch := omega) only [Option.bind_some, sc_kind (show x < 2 ^ 31 by omega), sc_kind (show y < 2 ^ 31 by omega), sc_part (show x < 2 ^ 31 by omega), sc_part (show y < 2 ^ 31 by omega), nz_0, nz_1, nz_2, nz_3, nz_4, nz_5, nz_6, nz_7, nz_8, nz_9, nz_10, nz_11, nz_12, nz_13, nz_14, nz_15, nz_16, nz_17, nz_18, nz_19, nz_20, nz_21, nz_22, nz_23, nz_24, nz_25, nz_26, nz_27, nz_28, nz_29, nz_30, nz_31, nz_32, nz_33, nz_34, nz_35, nz_36, nz_37, nz_38, nz_39, nz_40, nz_41, nz_42, nz_43, nz_44, nz_45, nz_46, nz_47, nz_48, nz_49, nz_50, nz_51, nz_63, nz_64, nz_66, nz_127, nz_128, nz_246, nz_247, nz_248, nz_250, nz_251, nz_252, nz_254, nz_255, nz_256, nz_400, nz_2500, nI_eq, nI_ltI, nI_leI, nI_add, nI_clamp, pk_mul]
  unfold sp_is
  by_cases e1 : x = y
  · rw [if_pos e1]
    exact rs_t (by simp [e1])
  rw [if_neg e1]
  by_cases e2 : y = 0
  · rw [if_pos e2]
    exact rs_t (by simp [e2])
  rw [if_neg e2]
  by_cases e3 : sp_kd y = 7
  · have hp := sp_wt7 hy e3
    rw [if_pos e3]
    by_cases e4 : x = 5
    · rw [if_pos e4]
      exact rs_t (by simp [e3, e4])
    rw [if_neg e4]
    by_cases e5 : sp_kd x = 7
    · have hq := sp_wt7 hx e5
      have hpl := sp_pt_le x
      have hpm := sp_pt_le y
      rw [if_pos e5]
      simp (disch := omega) only [nI_eq, nI_ltI, nI_leI, nI_add, nI_clamp, pk_mul]
      rw [if_neg (by omega), hM.2.1 _ hp]
      by_cases e6 : pg_face P (sp_pt y) = true
      · rw [if_neg (by rw [bI_0, e6]; decide)]
        exact rs_t (by simp [e3, e5, e6])
      · have e6 : pg_face P (sp_pt y) = false := by simpa using e6
        rw [if_pos (by rw [bI_0]; exact e6), if_neg (by omega), hM.2.2 _ _ hp hq]
        simp only [bI_1]
        unfold sp_il
        split
        · next e7 => exact rs_t (by simp [e3, e5, e6, e7])
        · next e7 => exact rs_f (by
            have e7 : sp_in (pg_sup P) 8 (sp_pt y) (sp_pt x) = false := by simpa using e7
            simp [e1, e2, e4, e6, e7])
    · rw [if_neg e5]
      exact rs_f (by simp [e1, e2, e4, e5])
  · rw [if_neg e3]
    exact rs_f (by simp [e1, e2, e3])
theorem sc_join_lp {P : sp_P} (hs : sp_sup (pg_sup P)) {M : zm_M} (hM : rc_C P M) {y : Nat} (hy : y < 2 ^ 31) (hd : sp_pt y < 8) (x : Int32) : ∀ (k c n j : Nat), c ≤ k → c < 8 → k < n → j + c ≤ 8 → rr_fa_join n 52 [some (.inr (1, 0)), some (.inl x), some (.inl (nI y)), some (.inl (nI c)), some (.inl (nI j))] [] M = some (nI (16 * sp_jc (pg_sup P) 8 c (sp_pt y) + 7), M) := by
  intro k
  induction k with
  | zero =>
    intro c n j h1 h2 h3 h4
    obtain ⟨n, rfl⟩ : ∃ m, n = m + 1 := ⟨n - 1, by omega⟩
    have : c = 0 := by omega
    subst this
    rw [eq_fa_join_52, sp_jc_s hs h2 hd, sp_in0 hs 8 _ (by omega) hd]
    simp (disch := omega) only [sc_part hy, Option.bind_some, nz_0, nz_1, nz_2, nz_3, nz_4, nz_5, nz_6, nz_7, nz_8, nz_9, nz_10, nz_11, nz_12, nz_13, nz_14, nz_15, nz_16, nz_17, nz_18, nz_19, nz_20, nz_21, nz_22, nz_23, nz_24, nz_25, nz_26, nz_27, nz_28, nz_29, nz_30, nz_31, nz_32, nz_33, nz_34, nz_35, nz_36, nz_37, nz_38, nz_39, nz_40, nz_41, nz_42, nz_43, nz_44, nz_45, nz_46, nz_47, nz_48, nz_49, nz_50, nz_51, nz_63, nz_64, nz_66, nz_127, nz_128, nz_246, nz_247, nz_248, nz_250, nz_251, nz_252, nz_254, nz_255, nz_256, nz_400, nz_2500, nI_eq, nI_ltI, nI_leI, nI_add, nI_clamp, pk_mul, sc_type]
    split
    · rw [if_neg (by omega), hM.2.2 _ _ h2 hd, sp_in0 hs 8 _ (by omega) hd, if_neg (by decide), if_pos trivial]
    · rw [if_pos trivial]
  | succ k ih =>
    intro c n j h1 h2 h3 h4
    obtain ⟨n, rfl⟩ : ∃ m, n = m + 1 := ⟨n - 1, by omega⟩
    rw [eq_fa_join_52, sp_jc_s hs h2 hd]
    simp (disch := omega) only [sc_part hy, Option.bind_some, nz_0, nz_1, nz_2, nz_3, nz_4, nz_5, nz_6, nz_7, nz_8, nz_9, nz_10, nz_11, nz_12, nz_13, nz_14, nz_15, nz_16, nz_17, nz_18, nz_19, nz_20, nz_21, nz_22, nz_23, nz_24, nz_25, nz_26, nz_27, nz_28, nz_29, nz_30, nz_31, nz_32, nz_33, nz_34, nz_35, nz_36, nz_37, nz_38, nz_39, nz_40, nz_41, nz_42, nz_43, nz_44, nz_45, nz_46, nz_47, nz_48, nz_49, nz_50, nz_51, nz_63, nz_64, nz_66, nz_127, nz_128, nz_246, nz_247, nz_248, nz_250, nz_251, nz_252, nz_254, nz_255, nz_256, nz_400, nz_2500, nI_eq, nI_ltI, nI_leI, nI_add, nI_clamp, pk_mul, sc_type]
    by_cases e : sp_in (pg_sup P) 8 c (sp_pt y) = true
    · rw [if_pos e]
      split
      · rw [if_neg (by omega), hM.2.2 _ _ h2 hd, e, if_neg (by decide)]
      · rfl
    · have hc0 : c ≠ 0 := by
        rintro rfl
        exact e (sp_in0 hs 8 _ (by omega) hd)
      have hsc := hs c (by omega) h2
      have e' : sp_in (pg_sup P) 8 c (sp_pt y) = false := by simpa using e
      rw [if_neg e, if_pos (by omega), if_neg (by omega), hM.2.2 _ _ h2 hd, e', if_pos (by decide), if_neg (by omega), hM.1 c h2]
      exact ih (pg_sup P c) n (j + 1) (by omega) (by omega) (by omega) (by omega)
theorem sc_join {P : sp_P} (hs : sp_sup (pg_sup P)) {M : zm_M} (hM : rc_C P M) {x y : Nat} (hx : sp_wt x) (hy : sp_wt y) : fn_fa_join [.inr (1, 0), .inl (nI x), .inl (nI y)] M = some (nI (sp_jn P x y), M) := by
  have hxl := sp_wt_lt hx
  have hyl := sp_wt_lt hy
  rw [eq_fa_join, show (1073741824 : Nat) = 1073741823 + 1 from rfl, eq_fa_join_0]
  unfold sp_jn
  simp (disch := omega) only [sc_oon (show x < 2 ^ 31 by omega), sc_oon (show y < 2 ^ 31 by omega), sc_part (show x < 2 ^ 31 by omega), Option.bind_some, nz_0, nz_1, nz_2, nz_3, nz_4, nz_5, nz_6, nz_7, nz_8, nz_9, nz_10, nz_11, nz_12, nz_13, nz_14, nz_15, nz_16, nz_17, nz_18, nz_19, nz_20, nz_21, nz_22, nz_23, nz_24, nz_25, nz_26, nz_27, nz_28, nz_29, nz_30, nz_31, nz_32, nz_33, nz_34, nz_35, nz_36, nz_37, nz_38, nz_39, nz_40, nz_41, nz_42, nz_43, nz_44, nz_45, nz_46, nz_47, nz_48, nz_49, nz_50, nz_51, nz_63, nz_64, nz_66, nz_127, nz_128, nz_246, nz_247, nz_248, nz_250, nz_251, nz_252, nz_254, nz_255, nz_256, nz_400, nz_2500, nI_eq, nI_ltI, nI_leI, nI_add, nI_clamp, pk_mul, bI_0]
  by_cases e1 : x = y
  · rw [if_pos e1, if_pos e1]
  rw [if_neg e1, if_neg e1]
  by_cases o1 : sp_op x = true
  · rw [if_neg (by rw [o1]; decide)]
    by_cases o2 : sp_op y = true
    · rw [if_neg (by rw [o2]; decide), o1, o2]
      simp only [Bool.and_self, if_true]
      by_cases x5 : x = 5
      · simp [x5]
      · by_cases y5 : y = 5
        · simp [x5, y5]
        · simp only [x5, y5, if_false]
          have h7x : sp_kd x = 7 := by unfold sp_op at o1; simpa [x5] using o1
          have h7y : sp_kd y = 7 := by unfold sp_op at o2; simpa [y5] using o2
          have hp := sp_wt7 hx h7x
          have hq := sp_wt7 hy h7y
          exact sc_join_lp hs hM (by omega) hq (nI x) 8 (sp_pt x) (1073741823 + 1) 0 (by omega) hp (by decide) (by omega)
    · have o2 : sp_op y = false := by simpa using o2
      rw [o2]
      simp
  · have o1 : sp_op x = false := by simpa using o1
    rw [o1]
    simp
