theorem so_ref {t : Nat} (h : sp_wt t) (M : zm_M) : fn_mo_isReference [.inl (nI t)] M = some (bI (sp_rf t), M) := by
  have hl := sp_wt_lt h
  have hk := sp_kd_lt t
  rw [eq_mo_isReference, so_pointer h]
  simp (disch := omega) only [Option.bind_some, so_kind (show t < 2 ^ 31 by omega), nz_0, nz_1, nz_2, nz_3, nz_4, nz_5, nz_6, nz_7, nz_8, nz_9, nz_10, nz_11, nz_12, nz_13, nz_14, nz_15, nz_16, nz_17, nz_18, nz_19, nz_20, nz_21, nz_22, nz_23, nz_24, nz_25, nz_26, nz_27, nz_28, nz_29, nz_30, nz_31, nz_32, nz_33, nz_34, nz_35, nz_36, nz_37, nz_38, nz_39, nz_40, nz_41, nz_42, nz_43, nz_44, nz_45, nz_46, nz_47, nz_48, nz_49, nz_50, nz_51, nz_63, nz_64, nz_66, nz_127, nz_128, nz_246, nz_247, nz_248, nz_250, nz_251, nz_252, nz_254, nz_255, nz_256, nz_400, nz_2500, nI_eq, nI_ltI, nI_leI, nI_add, nI_clamp, pk_mul]
  unfold sp_wt at h
  unfold sp_rf bI
  by_cases e : sp_op t = true
  · simp (disch := omega) only [e, Bool.toNat_true, nI_eq, nI_ltI, nI_leI, nI_add, nI_clamp, pk_mul]
    rw [if_neg (by decide)]
    refine rs_t ?_
    unfold sp_op at e
    simp only [Bool.or_eq_true, beq_iff_eq] at e
    unfold sp_kd at e ⊢
    simp only [Bool.and_eq_true, decide_eq_true_eq]
    omega
  · have e2 : sp_op t = false := by simpa using e
    simp (disch := omega) only [e2, Bool.toNat_false, nI_eq, nI_ltI, nI_leI, nI_add, nI_clamp, pk_mul, if_true]
    unfold sp_op at e2
    simp only [Bool.or_eq_false_iff, beq_eq_false_iff_ne, ne_eq] at e2
    unfold sp_kd sp_pt at h
    unfold sp_kd at e2 ⊢
    repeat' split
    all_goals first | exact rs_t (by simp only [Bool.or_eq_true, beq_iff_eq, Bool.and_eq_true, decide_eq_true_eq]; omega) | exact rs_f (by simp only [Bool.or_eq_false_iff, beq_eq_false_iff_ne, Bool.and_eq_false_iff, decide_eq_false_iff_not, ne_eq]; omega)
/-! LINES. A class's SUPER is less -/
def sp_sup (sup : Nat → Nat) : Prop := ∀ c, 0 < c → c < 8 → sup c < c
theorem sp_in_z (sup : Nat → Nat) (c : Nat) : ∀ n, sp_in sup n c 0 = (c == 0)
  | 0 => rfl
  | n + 1 => by unfold sp_in; simp
/-- more fuel than d changes nothing -/
theorem sp_in_f {sup : Nat → Nat} (hs : sp_sup sup) (c : Nat) : ∀ (n m d : Nat), d < 8 → d ≤ n → d ≤ m → sp_in sup n c d = sp_in sup m c d := by
  intro n
  induction n with
  | zero =>
    intro m d h8 h1 h2
    have : d = 0 := by omega
    subst this
    rw [sp_in_z, sp_in_z]
  | succ n ih =>
    intro m d h8 h1 h2
    by_cases h0 : d = 0
    · subst h0
      rw [sp_in_z, sp_in_z]
    · cases m with
      | zero => omega
      | succ m =>
        have := hs d (by omega) h8
        unfold sp_in
        rw [ih m (sup d) (by omega) (by omega) (by omega)]
theorem sp_in_s {sup : Nat → Nat} (hs : sp_sup sup) {c d : Nat} (hd : d < 8) : sp_in sup 8 c d = (c == d || (d != 0 && sp_in sup 8 c (sup d))) := by
  by_cases h0 : d = 0
  · subst h0
    rw [sp_in_z]
    simp
  · have := hs d (by omega) hd
    rw [show sp_in sup 8 c d = (c == d || (d != 0 && sp_in sup 7 c (sup d))) from rfl, sp_in_f hs c 7 8 (sup d) (by omega) (by omega) (by omega)]
/-- the reference's walk up the LINE -/
theorem so_inl_lp {sup : Nat → Nat} (hs : sp_sup sup) {M : zm_M} (hM : ∀ c, c < 8 → M 36 0 c = nI (sup c)) {c : Nat} (hc : c < 8) (x : Int32) : ∀ (k d n : Nat), d ≤ k → d < 8 → k < n → rr_mo_isInLine n 2 [some (.inr (35, 0)), some (.inl (nI c)), some (.inl x), some (.inl (nI d))] [] M = some (bI (sp_in sup 8 c d), M) := by
  intro k
  induction k with
  | zero =>
    intro d n h1 h2 h3
    obtain ⟨n, rfl⟩ : ∃ m, n = m + 1 := ⟨n - 1, by omega⟩
    have : d = 0 := by omega
    subst this
    rw [eq_mo_isInLine_2, sp_in_z]
    simp (disch := omega) only [nz_0, nz_1, nz_2, nz_3, nz_4, nz_5, nz_6, nz_7, nz_8, nz_9, nz_10, nz_11, nz_12, nz_13, nz_14, nz_15, nz_16, nz_17, nz_18, nz_19, nz_20, nz_21, nz_22, nz_23, nz_24, nz_25, nz_26, nz_27, nz_28, nz_29, nz_30, nz_31, nz_32, nz_33, nz_34, nz_35, nz_36, nz_37, nz_38, nz_39, nz_40, nz_41, nz_42, nz_43, nz_44, nz_45, nz_46, nz_47, nz_48, nz_49, nz_50, nz_51, nz_63, nz_64, nz_66, nz_127, nz_128, nz_246, nz_247, nz_248, nz_250, nz_251, nz_252, nz_254, nz_255, nz_256, nz_400, nz_2500, nI_eq, nI_ltI, nI_leI, nI_add, nI_clamp, pk_mul]
    rw [if_neg (by decide)]
    split
    · exact rs_t (by simp only [Bool.or_eq_true, beq_iff_eq, Bool.and_eq_true, decide_eq_true_eq]; omega)
    · exact rs_f (by simp only [Bool.or_eq_false_iff, beq_eq_false_iff_ne, Bool.and_eq_false_iff, decide_eq_false_iff_not, ne_eq]; omega)
  | succ k ih =>
    intro d n h1 h2 h3
    obtain ⟨n, rfl⟩ : ∃ m, n = m + 1 := ⟨n - 1, by omega⟩
    rw [eq_mo_isInLine_2, sp_in_s hs h2]
    simp (disch := omega) only [nz_0, nz_1, nz_2, nz_3, nz_4, nz_5, nz_6, nz_7, nz_8, nz_9, nz_10, nz_11, nz_12, nz_13, nz_14, nz_15, nz_16, nz_17, nz_18, nz_19, nz_20, nz_21, nz_22, nz_23, nz_24, nz_25, nz_26, nz_27, nz_28, nz_29, nz_30, nz_31, nz_32, nz_33, nz_34, nz_35, nz_36, nz_37, nz_38, nz_39, nz_40, nz_41, nz_42, nz_43, nz_44, nz_45, nz_46, nz_47, nz_48, nz_49, nz_50, nz_51, nz_63, nz_64, nz_66, nz_127, nz_128, nz_246, nz_247, nz_248, nz_250, nz_251, nz_252, nz_254, nz_255, nz_256, nz_400, nz_2500, nI_eq, nI_ltI, nI_leI, nI_add, nI_clamp, pk_mul]
    by_cases h0 : 0 < d
    · by_cases e : d = c
      · rw [if_pos h0, if_pos e, if_pos e]
        exact rs_t (by rw [e, beq_self_eq_true, Bool.true_or])
      · have hsd := hs d h0 h2
        rw [if_pos h0, if_neg e, if_neg (by omega), hM d h2, ih (sup d) n (by omega) (by omega) (by omega)]
        have e1 : (c == d) = false := by simp only [beq_eq_false_iff_ne, ne_eq]; omega
        have e2 : (d != 0) = true := by simp; omega
        rw [e1, e2]
        simp
    · have : d = 0 := by omega
      subst this
      rw [if_neg (by decide)]
      split
      · exact rs_t (by simp only [Bool.or_eq_true, beq_iff_eq, Bool.and_eq_true, decide_eq_true_eq]; omega)
      · refine rs_f ?_
        simp
        omega
theorem so_inl {sup : Nat → Nat} (hs : sp_sup sup) {M : zm_M} (hM : ∀ c, c < 8 → M 36 0 c = nI (sup c)) {c d : Nat} (hc : c < 8) (hd : d < 8) : fn_mo_isInLine [.inr (35, 0), .inl (nI c), .inl (nI d)] M = some (bI (sp_in sup 8 c d), M) := by
  rw [eq_mo_isInLine, show (1073741824 : Nat) = 1073741823 + 1 from rfl, eq_mo_isInLine_0]
  exact so_inl_lp hs hM hc (nI d) 8 d 1073741824 (by omega) hd (by decide)
/-! IS and JOIN of the reference -/
/-- the reference's classes -/
def rm_C (P : sp_P) (M : zm_M) : Prop := (∀ c, c < 8 → M 36 0 c = nI (pg_sup P c)) ∧ (∀ c, c < 8 → M 37 0 c = bI (pg_face P c))
theorem bI_0 (b : Bool) : bI b = nI 0 ↔ b = false := by cases b <;> decide
theorem bI_1 (b : Bool) : bI b = nI 1 ↔ b = true := by cases b <;> decide
theorem sp_wt7 {t : Nat} (h : sp_wt t) (h7 : sp_kd t = 7) : sp_pt t < 8 := by
  unfold sp_wt sp_kd sp_pt at h
  unfold sp_kd at h7
  unfold sp_pt
  omega
theorem so_is {P : sp_P} (hs : sp_sup (pg_sup P)) {M : zm_M} (hM : rm_C P M) {x y : Nat} (hx : sp_wt x) (hy : sp_wt y) : fn_mo_is [.inr (35, 0), .inl (nI x), .inl (nI y)] M = some (bI (sp_is P x y), M) := by
  have hxl := sp_wt_lt hx
  have hyl := sp_wt_lt hy
  have hk := sp_kd_lt x
  have hk2 := sp_kd_lt y
  rw [eq_mo_is]
  simp (disch := omega) only [Option.bind_some, so_kind (show x < 2 ^ 31 by omega), so_kind (show y < 2 ^ 31 by omega), nz_0, nz_1, nz_2, nz_3, nz_4, nz_5, nz_6, nz_7, nz_8, nz_9, nz_10, nz_11, nz_12, nz_13, nz_14, nz_15, nz_16, nz_17, nz_18, nz_19, nz_20, nz_21, nz_22, nz_23, nz_24, nz_25, nz_26, nz_27, nz_28, nz_29, nz_30, nz_31, nz_32, nz_33, nz_34, nz_35, nz_36, nz_37, nz_38, nz_39, nz_40, nz_41, nz_42, nz_43, nz_44, nz_45, nz_46, nz_47, nz_48, nz_49, nz_50, nz_51, nz_63, nz_64, nz_66, nz_127, nz_128, nz_246, nz_247, nz_248, nz_250, nz_251, nz_252, nz_254, nz_255, nz_256, nz_400, nz_2500, nI_eq, nI_ltI, nI_leI, nI_add, nI_clamp, pk_mul, pt_nI (show x < 2 ^ 31 by omega), pt_nI (show y < 2 ^ 31 by omega)]
  unfold sp_is
  by_cases e1 : x = y
  · rw [if_pos e1]
    exact rs_t (by simp [e1])
  rw [if_neg e1]
  by_cases e2 : y = 0
  · rw [if_pos e2]
    exact rs_t (by simp [e2])
  rw [if_neg e2]
  by_cases e3 : sp_kd y = 7
  · have hp := sp_wt7 hy e3
    rw [if_pos e3]
    by_cases e4 : x = 5
    · rw [if_pos e4]
      exact rs_t (by simp [e3, e4])
    rw [if_neg e4]
    by_cases e5 : sp_kd x = 7
    · have hq := sp_wt7 hx e5
      have hpl := sp_pt_le x
      have hpm := sp_pt_le y
      rw [if_pos e5]
      simp (disch := omega) only [nI_eq, nI_ltI, nI_leI, nI_add, nI_clamp, pk_mul]
      rw [if_neg (by omega), hM.2 _ hp]
      by_cases e6 : pg_face P (sp_pt y) = true
      · rw [if_neg (by rw [bI_0, e6]; decide)]
        exact rs_t (by simp [e3, e5, e6])
      · have e6 : pg_face P (sp_pt y) = false := by simpa using e6
        rw [if_pos (by rw [bI_0]; exact e6), so_inl hs hM.1 hp hq]
        simp only [Option.bind_some, bI_0]
        unfold sp_il
        split
        · next e7 => exact rs_f (by simp [e1, e2, e4, e6, e7])
        · next e7 => exact rs_t (by simp [e3, e5, e6]; right; right; simpa using e7)
    · rw [if_neg e5]
      exact rs_f (by simp [e1, e2, e4, e5])
  · rw [if_neg e3]
    exact rs_f (by simp [e1, e2, e3])
