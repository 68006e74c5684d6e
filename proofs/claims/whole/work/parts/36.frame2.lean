theorem vz_ne {t : Nat} (h : t < 2 ^ 31) : ¬ -nI 1 = nI t := fun e => absurd (show -nI 1 < 0 by decide) (by rw [e]; exact nI_pos h)
theorem sc_take {M : zm_M} {f t : Nat} {F : sp_F} (h : rc_F M f F) (hw : wf_F F) (ht : t < 2 ^ 31) : ∃ M', fn_fr_take [.inr (23, f), .inl (nI t)] M = some (bI (F.2.1.head? == some t), M') ∧ zo_F f M M' ∧ ∀ T, F.2.1 = t :: T → rc_F M' f (F.1, T, F.2.2) := by
  rw [eq_fr_take, nz_0, sc_peek h (by decide)]
  simp only [Option.bind_some, nz_0, nz_1, nz_2, nz_3, nz_4, nz_5, nz_6, nz_7, nz_8, nz_9, nz_10, nz_11, nz_12, nz_13, nz_14, nz_15, nz_16, nz_17, nz_18, nz_19, nz_20, nz_21, nz_22, nz_23, nz_24, nz_25, nz_26, nz_27, nz_28, nz_29, nz_30, nz_31, nz_32, nz_33, nz_34, nz_35, nz_36, nz_37, nz_38, nz_39, nz_40, nz_41, nz_42, nz_43, nz_44, nz_45, nz_46, nz_47, nz_48, nz_49, nz_50, nz_51, nz_63, nz_64, nz_66, nz_127, nz_128, nz_246, nz_247, nz_248, nz_250, nz_251, nz_252, nz_254, nz_255, nz_256, nz_400, nz_2500]
  obtain ⟨L, T, b⟩ := F
  cases T with
  | nil => exact ⟨M, by rw [if_neg (show ¬ vz (([] : List Nat)[0]?) = nI t from vz_ne ht)]; exact rs_f rfl, zo_F.rf, fun T hT => by cases hT⟩
  | cons x T =>
    have hx := sp_wt_lt (hw.2 x List.mem_cons_self)
    simp only [List.getElem?_cons_zero, vz]
    simp (disch := omega) only [nI_eq, nI_ltI, nI_leI, nI_add, nI_clamp, pk_mul]
    by_cases e : x = t
    · subst e
      obtain ⟨M', h1, h2, h3⟩ := sc_drop h (by omega)
      refine ⟨M', by rw [if_pos rfl, h1]; exact rs_t (by simp), h2, fun T' hT => ?_⟩
      cases hT
      exact h3
    · exact ⟨M, by rw [if_neg e]; exact rs_f (by simp [e]), zo_F.rf, fun T' hT => by cases hT; exact absurd rfl e⟩
theorem sc_empty {M : zm_M} {f : Nat} {F : sp_F} (h : rp (M 24 f) (M 25 f) (M 23 f 2) (M 23 f 4) F) : ∃ M', fn_fr_emptyStack [.inr (23, f)] M = some M' ∧ zo_F f M M' ∧ rc_F M' f (F.1, [], F.2.2) := by
  rw [eq_fr_emptyStack]
  refine ⟨_, rfl, (zo_F.up (by omega)).tr (zo_F.up (by omega)), ⟨h.1, ?_, ?_, fun i hi => by simp at hi, ?_⟩, ?_, Nat.zero_le 8⟩
  · simp (disch := omega) only [zu_s, zu_e, zu_k]
    exact h.2.1
  · simp (disch := omega) only [zu_s, zu_e, zu_k]
    exact nz_0
  · simp (disch := omega) only [zu_s, zu_e, zu_k]
    exact h.2.2.2.2
  · simp (disch := omega) only [zu_s, zu_e, zu_k]
    exact nz_0
theorem sc_swap {M : zm_M} {f x y : Nat} {L T : List Nat} {b : Bool} (h : rc_F M f (L, x :: y :: T, b)) : ∃ M', fn_fr_swap [.inr (23, f)] M = some M' ∧ zo_F f M M' ∧ rc_F M' f (L, y :: x :: T, b) := by
  obtain ⟨hr, hsl, h8⟩ := h
  have hl := sp_sl_len T
  have w1 := sp_wd_le x
  have w2 := sp_wd_le y
  dsimp only at hsl h8
  rw [sp_sl_c, sp_sl_c] at hsl h8
  have hd : M 23 f 2 = nI (T.length + 2) := hr.2.2.1
  have hx : M 25 f (T.length + 1) = nI x := rp_top hr
  have hy : M 25 f T.length = nI y := by
    have := hr.2.2.2.1 T.length (by simp only [List.length_cons]; omega)
    rw [this]
    simp only [List.length_cons]
    rw [show T.length + 1 + 1 - 1 - T.length = 1 by omega]
    rfl
  rw [eq_fr_swap, hd]
  simp (disch := omega) only [nz_0, nz_1, nz_2, nz_3, nz_4, nz_5, nz_6, nz_7, nz_8, nz_9, nz_10, nz_11, nz_12, nz_13, nz_14, nz_15, nz_16, nz_17, nz_18, nz_19, nz_20, nz_21, nz_22, nz_23, nz_24, nz_25, nz_26, nz_27, nz_28, nz_29, nz_30, nz_31, nz_32, nz_33, nz_34, nz_35, nz_36, nz_37, nz_38, nz_39, nz_40, nz_41, nz_42, nz_43, nz_44, nz_45, nz_46, nz_47, nz_48, nz_49, nz_50, nz_51, nz_63, nz_64, nz_66, nz_127, nz_128, nz_246, nz_247, nz_248, nz_250, nz_251, nz_252, nz_254, nz_255, nz_256, nz_400, nz_2500, pk_sub]
  rw [show T.length + 2 - 1 = T.length + 1 by omega, show T.length + 2 - 2 = T.length by omega]
  simp (disch := omega) only [nI_eq, nI_ltI, nI_leI, nI_add, nI_clamp, pk_mul, hx, hy]
  rw [if_pos (by omega), if_neg (by omega), if_neg (by omega), if_neg (by omega), if_neg (by omega)]
  refine ⟨_, rfl, (zo_F.up (by omega)).tr (zo_F.up (by omega)), ⟨hr.1, ?_, ?_, ?_, ?_⟩, ?_, ?_⟩
  · simp (disch := omega) only [zu_s, zu_e, zu_k]
    exact hr.2.1
  · simp (disch := omega) only [zu_s, zu_e, zu_k]
    exact hr.2.2.1
  · intro i hi
    simp only [List.length_cons] at hi ⊢
    by_cases h1 : i = T.length
    · subst h1
      rw [zu_e, show T.length + 1 + 1 - 1 - T.length = 1 by omega]
      rfl
    · rw [zu_k h1]
      by_cases h2 : i = T.length + 1
      · subst h2
        rw [zu_e, show T.length + 1 + 1 - 1 - (T.length + 1) = 0 by omega]
        rfl
      · rw [zu_k h2, hr.2.2.2.1 i (by simp only [List.length_cons]; omega)]
        simp only [List.length_cons]
        rw [show T.length + 1 + 1 - 1 - i = (T.length - 1 - i) + 1 + 1 by omega, List.getD_cons_succ, List.getD_cons_succ, List.getD_cons_succ, List.getD_cons_succ]
  · simp (disch := omega) only [zu_s, zu_e, zu_k]
    exact hr.2.2.2.2
  · simp (disch := omega) only [zu_s, zu_e, zu_k]
    rw [hsl, sp_sl_c, sp_sl_c]
    congr 1
    omega
  · dsimp only
    rw [sp_sl_c, sp_sl_c]
    omega
/-! arrays written at many places -/
theorem ua_s {M : zm_M} {s i s' : Nat} {g : Nat → Int32} (h : s' ≠ s) : zm_ua M s i g s' = M s' := by
  funext i' k'
  unfold zm_ua
  rw [if_neg h]
theorem ua_i {M : zm_M} {s i s' i' : Nat} {g : Nat → Int32} (h : i' ≠ i) : zm_ua M s i g s' i' = M s' i' := by
  funext k'
  unfold zm_ua
  simp [h]
theorem ua_e {M : zm_M} {s i : Nat} {g : Nat → Int32} : zm_ua M s i g s i = g := by
  funext k'
  unfold zm_ua
  simp
theorem ua_id {M : zm_M} {s i : Nat} {g : Nat → Int32} (h : ∀ j, g j = M s i j) : zm_ua M s i g = M := by
  funext s' i' k'
  unfold zm_ua
  by_cases h1 : s' = s
  · by_cases h2 : i' = i
    · subst h1 h2
      simp [h]
    · simp [h2]
  · simp [h1]
theorem ua_up {M : zm_M} {s i k : Nat} {g g' : Nat → Int32} {x : Int32} (h : ∀ j, g' j = if j = k then x else g j) : zm_up (zm_ua M s i g) s i k x = zm_ua M s i g' := by
  funext s' i' k'
  unfold zm_up zm_ua
  by_cases h1 : s' = s
  · by_cases h2 : i' = i
    · simp [h1, h2, h]
    · simp [h1, h2]
  · simp [h1]
theorem ua_ua {M : zm_M} {s i : Nat} {g g' : Nat → Int32} : zm_ua (zm_ua M s i g) s i g' = zm_ua M s i g' := by
  funext s' i' k'
  unfold zm_ua
  by_cases h1 : s' = s
  · by_cases h2 : i' = i
    · simp [h1, h2]
    · simp [h1, h2]
  · simp [h1]
theorem zo_F.ua {f s : Nat} {g : Nat → Int32} {M : zm_M} (hs : 22 < s ∧ s < 26) : zo_F f M (zm_ua M s f g) := by
  intro s' i' k' h
  unfold zm_ua
  by_cases h1 : s' = s
  · by_cases h2 : i' = f
    · omega
    · simp [h2]
  · simp [h1]
/-! replaceAll, hasRawThisInLocal -/
def rp_rg (x y : Nat) (g : Nat → Int32) (i : Nat) : Nat → Int32 := fun j => if j < i ∧ g j = nI x then nI y else g j
theorem sc_rep_lo {M : zm_M} {f x y : Nat} : ∀ (k i n : Nat), i + k = 10 → k < n → ∃ n', rr_fr_replaceAll n 2 [some (.inr (23, f)), some (.inl (nI x)), some (.inl (nI y)), some (.inl (nI i))] [] (zm_ua M 24 f (rp_rg x y (M 24 f) i)) = rr_fr_replaceAll (n' + 1) 33 [some (.inr (23, f)), some (.inl (nI x)), some (.inl (nI y)), some (.inl (nI 0))] [] (zm_ua M 24 f (rp_rg x y (M 24 f) 10)) ∧ n ≤ n' + 1 + k := by
  intro k
  induction k with
  | zero =>
    intro i n h1 h2
    obtain ⟨n, rfl⟩ : ∃ m, n = m + 1 := ⟨n - 1, by omega⟩
    have : i = 10 := by omega
    subst this
    rw [eq_fr_replaceAll_2]
    simp (disch := omega) only [nz_0, nz_1, nz_2, nz_3, nz_4, nz_5, nz_6, nz_7, nz_8, nz_9, nz_10, nz_11, nz_12, nz_13, nz_14, nz_15, nz_16, nz_17, nz_18, nz_19, nz_20, nz_21, nz_22, nz_23, nz_24, nz_25, nz_26, nz_27, nz_28, nz_29, nz_30, nz_31, nz_32, nz_33, nz_34, nz_35, nz_36, nz_37, nz_38, nz_39, nz_40, nz_41, nz_42, nz_43, nz_44, nz_45, nz_46, nz_47, nz_48, nz_49, nz_50, nz_51, nz_63, nz_64, nz_66, nz_127, nz_128, nz_246, nz_247, nz_248, nz_250, nz_251, nz_252, nz_254, nz_255, nz_256, nz_400, nz_2500, nI_eq, nI_ltI, nI_leI, nI_add, nI_clamp, pk_mul]
    rw [if_neg (by omega)]
    exact ⟨n, rfl, by omega⟩
  | succ k ih =>
    intro i n h1 h2
    obtain ⟨n, rfl⟩ : ∃ m, n = m + 1 := ⟨n - 1, by omega⟩
    rw [eq_fr_replaceAll_2]
    simp (disch := omega) only [nz_0, nz_1, nz_2, nz_3, nz_4, nz_5, nz_6, nz_7, nz_8, nz_9, nz_10, nz_11, nz_12, nz_13, nz_14, nz_15, nz_16, nz_17, nz_18, nz_19, nz_20, nz_21, nz_22, nz_23, nz_24, nz_25, nz_26, nz_27, nz_28, nz_29, nz_30, nz_31, nz_32, nz_33, nz_34, nz_35, nz_36, nz_37, nz_38, nz_39, nz_40, nz_41, nz_42, nz_43, nz_44, nz_45, nz_46, nz_47, nz_48, nz_49, nz_50, nz_51, nz_63, nz_64, nz_66, nz_127, nz_128, nz_246, nz_247, nz_248, nz_250, nz_251, nz_252, nz_254, nz_255, nz_256, nz_400, nz_2500, nI_eq, nI_ltI, nI_leI, nI_add, nI_clamp, pk_mul, ua_e]
    rw [if_pos (by omega), if_neg (by omega)]
    have hgi : rp_rg x y (M 24 f) i i = M 24 f i := by unfold rp_rg; rw [if_neg (by omega)]
    obtain ⟨n', h3, h4⟩ := ih (i + 1) n (by omega) (by omega)
    refine ⟨n', ?_, by omega⟩
    rw [hgi]
    by_cases e : M 24 f i = nI x
    · rw [if_pos e, if_neg (by omega), ua_up (g' := rp_rg x y (M 24 f) (i + 1)) (fun j => ?_)]
      · exact h3
      · unfold rp_rg
        by_cases h5 : j = i
        · subst h5
          simp [e]
        · simp only [h5, if_false, show j < i + 1 ↔ j < i by omega]
    · rw [if_neg e, show rp_rg x y (M 24 f) i = rp_rg x y (M 24 f) (i + 1) from ?_]
      · exact h3
      · funext j
        unfold rp_rg
        by_cases h5 : j = i
        · subst h5
          simp [e]
        · simp only [show j < i + 1 ↔ j < i by omega]
theorem sc_rep_st {M : zm_M} {f x y d : Nat} (hd : M 23 f 2 = nI d) (h8 : d ≤ 8) : ∀ (k i n : Nat), i + k = d → k < n → rr_fr_replaceAll n 33 [some (.inr (23, f)), some (.inl (nI x)), some (.inl (nI y)), some (.inl (nI i))] [] (zm_ua M 25 f (rp_rg x y (M 25 f) i)) = some (zm_ua M 25 f (rp_rg x y (M 25 f) d)) := by
  intro k
  induction k with
  | zero =>
    intro i n h1 h2
    obtain ⟨n, rfl⟩ : ∃ m, n = m + 1 := ⟨n - 1, by omega⟩
    have : i = d := by omega
    subst this
    rw [eq_fr_replaceAll_33, ua_s (by decide), hd]
    simp (disch := omega) only [nI_eq, nI_ltI, nI_leI, nI_add, nI_clamp, pk_mul]
    rw [if_neg (by omega)]
  | succ k ih =>
    intro i n h1 h2
    obtain ⟨n, rfl⟩ : ∃ m, n = m + 1 := ⟨n - 1, by omega⟩
    rw [eq_fr_replaceAll_33, ua_s (show 23 ≠ 25 by decide), hd]
    simp (disch := omega) only [nz_0, nz_1, nz_2, nz_3, nz_4, nz_5, nz_6, nz_7, nz_8, nz_9, nz_10, nz_11, nz_12, nz_13, nz_14, nz_15, nz_16, nz_17, nz_18, nz_19, nz_20, nz_21, nz_22, nz_23, nz_24, nz_25, nz_26, nz_27, nz_28, nz_29, nz_30, nz_31, nz_32, nz_33, nz_34, nz_35, nz_36, nz_37, nz_38, nz_39, nz_40, nz_41, nz_42, nz_43, nz_44, nz_45, nz_46, nz_47, nz_48, nz_49, nz_50, nz_51, nz_63, nz_64, nz_66, nz_127, nz_128, nz_246, nz_247, nz_248, nz_250, nz_251, nz_252, nz_254, nz_255, nz_256, nz_400, nz_2500, nI_eq, nI_ltI, nI_leI, nI_add, nI_clamp, pk_mul, ua_e]
    rw [if_pos (by omega), if_neg (by omega)]
    have hgi : rp_rg x y (M 25 f) i i = M 25 f i := by unfold rp_rg; rw [if_neg (by omega)]
    have h3 := ih (i + 1) n (by omega) (by omega)
    rw [hgi]
    by_cases e : M 25 f i = nI x
    · rw [if_pos e, if_neg (by omega), ua_up (g' := rp_rg x y (M 25 f) (i + 1)) (fun j => ?_)]
      · exact h3
      · unfold rp_rg
        by_cases h5 : j = i
        · subst h5
          simp [e]
        · simp only [h5, if_false, show j < i + 1 ↔ j < i by omega]
    · rw [if_neg e, show rp_rg x y (M 25 f) i = rp_rg x y (M 25 f) (i + 1) from ?_]
      · exact h3
      · funext j
        unfold rp_rg
        by_cases h5 : j = i
        · subst h5
          simp [e]
        · simp only [show j < i + 1 ↔ j < i by omega]
