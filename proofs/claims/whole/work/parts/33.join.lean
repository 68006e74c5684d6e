theorem sp_in0 {sup : Nat → Nat} (hs : sp_sup sup) : ∀ (k d : Nat), d ≤ k → d < 8 → sp_in sup 8 0 d = true := by
  intro k
  induction k with
  | zero =>
    intro d h1 h2
    have : d = 0 := by omega
    subst this
    rw [sp_in_z]
    rfl
  | succ k ih =>
    intro d h1 h2
    rw [sp_in_s hs h2]
    by_cases h0 : d = 0
    · simp [h0]
    · have := hs d (by omega) h2
      rw [ih (sup d) (by omega) (by omega)]
      simp [h0]
theorem sp_jc_f {sup : Nat → Nat} (hs : sp_sup sup) {d : Nat} (hd : d < 8) : ∀ (n m c : Nat), c < 8 → c ≤ n → c ≤ m → sp_jc sup n c d = sp_jc sup m c d := by
  intro n
  induction n with
  | zero =>
    intro m c h8 h1 h2
    have : c = 0 := by omega
    subst this
    cases m with
    | zero => rfl
    | succ m =>
      unfold sp_jc
      rw [sp_in0 hs 8 d (by omega) hd, if_pos rfl]
  | succ n ih =>
    intro m c h8 h1 h2
    cases m with
    | zero =>
      have : c = 0 := by omega
      subst this
      unfold sp_jc
      rw [sp_in0 hs 8 d (by omega) hd, if_pos rfl]
    | succ m =>
      unfold sp_jc
      by_cases e : sp_in sup 8 c d = true
      · rw [if_pos e, if_pos e]
      · rw [if_neg e, if_neg e]
        have hc : c ≠ 0 := by
          rintro rfl
          exact e (sp_in0 hs 8 d (by omega) hd)
        have := hs c (by omega) h8
        exact ih m (sup c) (by omega) (by omega) (by omega)
theorem sp_jc_s {sup : Nat → Nat} (hs : sp_sup sup) {c d : Nat} (hc : c < 8) (hd : d < 8) : sp_jc sup 8 c d = if sp_in sup 8 c d = true then c else sp_jc sup 8 (sup c) d := by
  by_cases e : sp_in sup 8 c d = true
  · rw [if_pos e]
    show (if sp_in sup 8 c d = true then c else sp_jc sup 7 (sup c) d) = c
    rw [if_pos e]
  · rw [if_neg e]
    show (if sp_in sup 8 c d = true then c else sp_jc sup 7 (sup c) d) = _
    rw [if_neg e]
    have hc0 : c ≠ 0 := by
      rintro rfl
      exact e (sp_in0 hs 8 d (by omega) hd)
    have := hs c (by omega) hc
    exact sp_jc_f hs hd 7 8 (sup c) (by omega) (by omega) (by omega)
theorem sp_jc_lt {sup : Nat → Nat} (hs : sp_sup sup) {d : Nat} (hd : d < 8) : ∀ (k c : Nat), c ≤ k → c < 8 → sp_jc sup 8 c d < 8 := by
  intro k
  induction k with
  | zero =>
    intro c h1 h2
    have : c = 0 := by omega
    subst this
    rw [sp_jc_s hs h2 hd, sp_in0 hs 8 d (by omega) hd, if_pos rfl]
    exact h2
  | succ k ih =>
    intro c h1 h2
    rw [sp_jc_s hs h2 hd]
    split
    · exact h2
    · next e =>
      have hc0 : c ≠ 0 := by
        rintro rfl
        exact e (sp_in0 hs 8 d (by omega) hd)
      have := hs c (by omega) h2
      exact ih (sup c) (by omega) (by omega)
theorem so_join_lp {sup : Nat → Nat} (hs : sp_sup sup) {M : zm_M} (hM : ∀ c, c < 8 → M 36 0 c = nI (sup c)) {y : Nat} (hy : y < 2 ^ 31) (hd : sp_pt y < 8) (x v3 v4 : Int32) : ∀ (k c n : Nat), c ≤ k → c < 8 → k < n → rr_mo_join n 88 [some (.inr (35, 0)), some (.inl x), some (.inl (nI y)), some (.inl v3), some (.inl v4), some (.inl (nI c)), some (.inl (bI (sp_in sup 8 c (sp_pt y))))] [] M = some (nI (16 * sp_jc sup 8 c (sp_pt y) + 7), M) := by
  intro k
  induction k with
  | zero =>
    intro c n h1 h2 h3
    obtain ⟨n, rfl⟩ : ∃ m, n = m + 1 := ⟨n - 1, by omega⟩
    have : c = 0 := by omega
    subst this
    rw [eq_mo_join_88, sp_jc_s hs h2 hd, sp_in0 hs 8 _ (by omega) hd]
    simp only [nz_0, nz_1, nz_2, nz_3, nz_4, nz_5, nz_6, nz_7, nz_8, nz_9, nz_10, nz_11, nz_12, nz_13, nz_14, nz_15, nz_16, nz_17, nz_18, nz_19, nz_20, nz_21, nz_22, nz_23, nz_24, nz_25, nz_26, nz_27, nz_28, nz_29, nz_30, nz_31, nz_32, nz_33, nz_34, nz_35, nz_36, nz_37, nz_38, nz_39, nz_40, nz_41, nz_42, nz_43, nz_44, nz_45, nz_46, nz_47, nz_48, nz_49, nz_50, nz_51, nz_63, nz_64, nz_66, nz_127, nz_128, nz_246, nz_247, nz_248, nz_250, nz_251, nz_252, nz_254, nz_255, nz_256, nz_400, nz_2500, bI_0, if_true]
    rw [if_neg (by decide), pk_mul, nI_add]
  | succ k ih =>
    intro c n h1 h2 h3
    obtain ⟨n, rfl⟩ : ∃ m, n = m + 1 := ⟨n - 1, by omega⟩
    rw [eq_mo_join_88, sp_jc_s hs h2 hd]
    by_cases e : sp_in sup 8 c (sp_pt y) = true
    · rw [e]
      simp only [nz_0, nz_1, nz_2, nz_3, nz_4, nz_5, nz_6, nz_7, nz_8, nz_9, nz_10, nz_11, nz_12, nz_13, nz_14, nz_15, nz_16, nz_17, nz_18, nz_19, nz_20, nz_21, nz_22, nz_23, nz_24, nz_25, nz_26, nz_27, nz_28, nz_29, nz_30, nz_31, nz_32, nz_33, nz_34, nz_35, nz_36, nz_37, nz_38, nz_39, nz_40, nz_41, nz_42, nz_43, nz_44, nz_45, nz_46, nz_47, nz_48, nz_49, nz_50, nz_51, nz_63, nz_64, nz_66, nz_127, nz_128, nz_246, nz_247, nz_248, nz_250, nz_251, nz_252, nz_254, nz_255, nz_256, nz_400, nz_2500, bI_0, if_true]
      rw [if_neg (by decide), pk_mul, nI_add]
    · have hc0 : c ≠ 0 := by
        rintro rfl
        exact e (sp_in0 hs 8 _ (by omega) hd)
      have hsc := hs c (by omega) h2
      have e' : sp_in sup 8 c (sp_pt y) = false := by simpa using e
      rw [e']
      simp only [nz_0, nz_1, nz_2, nz_3, nz_4, nz_5, nz_6, nz_7, nz_8, nz_9, nz_10, nz_11, nz_12, nz_13, nz_14, nz_15, nz_16, nz_17, nz_18, nz_19, nz_20, nz_21, nz_22, nz_23, nz_24, nz_25, nz_26, nz_27, nz_28, nz_29, nz_30, nz_31, nz_32, nz_33, nz_34, nz_35, nz_36, nz_37, nz_38, nz_39, nz_40, nz_41, nz_42, nz_43, nz_44, nz_45, nz_46, nz_47, nz_48, nz_49, nz_50, nz_51, nz_63, nz_64, nz_66, nz_127, nz_128, nz_246, nz_247, nz_248, nz_250, nz_251, nz_252, nz_254, nz_255, nz_256, nz_400, nz_2500, bI_0, if_true]
      simp (disch := omega) only [nI_eq, nI_ltI, nI_leI, nI_add, nI_clamp, pk_mul]
      rw [if_neg (by omega), hM c h2, pt_nI hy, so_inl hs hM (by omega) hd]
      simp only [Option.bind_some]
      rw [ih (sup c) n (by omega) (by omega) (by omega)]
      simp
theorem so_join {P : sp_P} (hs : sp_sup (pg_sup P)) {M : zm_M} (hM : rm_C P M) {x y : Nat} (hx : sp_wt x) (hy : sp_wt y) : fn_mo_join [.inr (35, 0), .inl (nI x), .inl (nI y)] M = some (nI (sp_jn P x y), M) := by
  have hxl := sp_wt_lt hx
  have hyl := sp_wt_lt hy
  have hk := sp_kd_lt x
  have hk2 := sp_kd_lt y
  rw [eq_mo_join, show (1073741824 : Nat) = 1073741823 + 1 from rfl, eq_mo_join_0]
  unfold sp_jn
  simp (disch := omega) only [so_kind (show x < 2 ^ 31 by omega), Option.bind_some, nz_0, nz_1, nz_2, nz_3, nz_4, nz_5, nz_6, nz_7, nz_8, nz_9, nz_10, nz_11, nz_12, nz_13, nz_14, nz_15, nz_16, nz_17, nz_18, nz_19, nz_20, nz_21, nz_22, nz_23, nz_24, nz_25, nz_26, nz_27, nz_28, nz_29, nz_30, nz_31, nz_32, nz_33, nz_34, nz_35, nz_36, nz_37, nz_38, nz_39, nz_40, nz_41, nz_42, nz_43, nz_44, nz_45, nz_46, nz_47, nz_48, nz_49, nz_50, nz_51, nz_63, nz_64, nz_66, nz_127, nz_128, nz_246, nz_247, nz_248, nz_250, nz_251, nz_252, nz_254, nz_255, nz_256, nz_400, nz_2500, nI_eq, nI_ltI, nI_leI, nI_add, nI_clamp, pk_mul]
  by_cases e1 : x = y
  · rw [if_pos e1, if_pos e1]
  rw [if_neg e1, if_neg e1]
  have key : ∀ (a b : Bool), a = (sp_kd x == 7) → b = (sp_kd y == 7) → ∀ o5 o6, rr_mo_join (1073741823 + 1) 36 [some (.inr (35, 0)), some (.inl (nI x)), some (.inl (nI y)), some (.inl (bI a)), none, o5, o6] [.inl (bI b)] M = some (nI (if (sp_op x && sp_op y) = true then (if x = 5 then y else if y = 5 then x else 16 * sp_jc (pg_sup P) 8 (sp_pt x) (sp_pt y) + 7) else 0), M) := by
    intro a b ha hb o5 o6
    have op1 : sp_op x = (x == 5 || a) := by rw [ha]; rfl
    have op2 : sp_op y = (y == 5 || b) := by rw [hb]; rfl
    have n5 : sp_kd 5 = 5 := rfl
    rw [op1, op2]
    simp only [eq_mo_join_36, eq_mo_join_49, eq_mo_join_61, eq_mo_join_70, nz_0, nz_1, nz_2, nz_3, nz_4, nz_5, nz_6, nz_7, nz_8, nz_9, nz_10, nz_11, nz_12, nz_13, nz_14, nz_15, nz_16, nz_17, nz_18, nz_19, nz_20, nz_21, nz_22, nz_23, nz_24, nz_25, nz_26, nz_27, nz_28, nz_29, nz_30, nz_31, nz_32, nz_33, nz_34, nz_35, nz_36, nz_37, nz_38, nz_39, nz_40, nz_41, nz_42, nz_43, nz_44, nz_45, nz_46, nz_47, nz_48, nz_49, nz_50, nz_51, nz_63, nz_64, nz_66, nz_127, nz_128, nz_246, nz_247, nz_248, nz_250, nz_251, nz_252, nz_254, nz_255, nz_256, nz_400, nz_2500, bI_0]
    simp (disch := omega) only [nI_eq, nI_ltI, nI_leI, nI_add, nI_clamp, pk_mul]
    cases ha' : a <;> cases hb' : b
    · simp only [if_true, Bool.or_false, Bool.and_eq_true, beq_iff_eq]
      rw [if_neg (by omega)]
    · have : x = 5 ∨ x ≠ 5 := by omega
      rcases this with h5 | h5
      · simp [h5]
      · simp [h5]
    · have : y = 5 ∨ y ≠ 5 := by omega
      rcases this with h5 | h5
      · have hx5 : x ≠ 5 := fun hh => e1 (hh.trans h5.symm)
        simp [h5, hx5]
      · simp [h5]
    · have h7x : sp_kd x = 7 := by rw [ha'] at ha; simpa using ha.symm
      have h7y : sp_kd y = 7 := by rw [hb'] at hb; simpa using hb.symm
      have x5 : x ≠ 5 := by rintro rfl; rw [n5] at h7x; omega
      have y5 : y ≠ 5 := by rintro rfl; rw [n5] at h7y; omega
      have hp := sp_wt7 hx h7x
      have hq := sp_wt7 hy h7y
      simp only [x5, y5, if_false, if_true, Bool.or_true, Bool.and_self, Bool.true_eq_false]
      rw [pt_nI (show x < 2 ^ 31 by omega), pt_nI (show y < 2 ^ 31 by omega), so_inl hs hM.1 hp hq]
      simp only [Option.bind_some]
      exact so_join_lp hs hM.1 (by omega) hq (nI x) _ _ 8 (sp_pt x) (1073741823 + 1) (by omega) hp (by decide)
  have k2 : ∀ (a : Bool), a = (sp_kd x == 7) → ∀ o3 o5 o6, rr_mo_join (1073741823 + 1) 21 [some (.inr (35, 0)), some (.inl (nI x)), some (.inl (nI y)), o3, none, o5, o6] [.inl (bI a)] M = some (nI (if (sp_op x && sp_op y) = true then (if x = 5 then y else if y = 5 then x else 16 * sp_jc (pg_sup P) 8 (sp_pt x) (sp_pt y) + 7) else 0), M) := by
    intro a ha o3 o5 o6
    rw [eq_mo_join_21]
    simp (disch := omega) only [so_kind (show y < 2 ^ 31 by omega), Option.bind_some, nz_0, nz_1, nz_2, nz_3, nz_4, nz_5, nz_6, nz_7, nz_8, nz_9, nz_10, nz_11, nz_12, nz_13, nz_14, nz_15, nz_16, nz_17, nz_18, nz_19, nz_20, nz_21, nz_22, nz_23, nz_24, nz_25, nz_26, nz_27, nz_28, nz_29, nz_30, nz_31, nz_32, nz_33, nz_34, nz_35, nz_36, nz_37, nz_38, nz_39, nz_40, nz_41, nz_42, nz_43, nz_44, nz_45, nz_46, nz_47, nz_48, nz_49, nz_50, nz_51, nz_63, nz_64, nz_66, nz_127, nz_128, nz_246, nz_247, nz_248, nz_250, nz_251, nz_252, nz_254, nz_255, nz_256, nz_400, nz_2500, nI_eq, nI_ltI, nI_leI, nI_add, nI_clamp, pk_mul]
    split
    · next e => exact key a true ha (by simp [e]) o5 o6
    · next e => exact key a false ha (by simp [e]) o5 o6
  split
  · next e => exact k2 true (by simp [e]) _ _ _
  · next e => exact k2 false (by simp [e]) _ _ _
