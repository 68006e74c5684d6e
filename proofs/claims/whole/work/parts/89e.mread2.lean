/-! the reference: entering, pushing what was read -/
theorem so_en_lp {M : zm_M} {X : List Nat} (hX : rm_X M X) {v1 : Int32} {w : Nat} (hw : w ≤ 2) : ∀ (k i n : Nat), i + k = X.length → k < n → ∃ n', rr_mo_enter n 15 [some (.inr (35, 0)), some (.inl v1), some (.inl (nI (w + sp_sl (X.take i)))), some (.inl (nI i))] [] M = rr_mo_enter (n' + 1) 15 [some (.inr (35, 0)), some (.inl v1), some (.inl (nI (w + sp_sl X))), some (.inl (nI X.length))] [] M := by
  have hl := hX.2.1
  intro k
  induction k with
  | zero =>
    intro i n hk hn
    obtain ⟨n, rfl⟩ : ∃ m, n = m + 1 := ⟨n - 1, by omega⟩
    have : i = X.length := by omega
    subst this
    rw [List.take_length]
    exact ⟨n, rfl⟩
  | succ k ih =>
    intro i n hk hn
    obtain ⟨n, rfl⟩ : ∃ m, n = m + 1 := ⟨n - 1, by omega⟩
    have hwl : X.getD i 0 < 2 ^ 31 := hX.2.2.2 _ (gd_mem (by omega))
    have hwd := sp_wd_le (X.getD i 0)
    rw [eq_mo_enter_15, hX.1, if_pos (ni_lt (by omega) (by omega) (by omega)), nI_clamp (by omega)]
    simp only [nz_0, nz_1, nz_2, nz_3, nz_4, nz_5, nz_6, nz_7, nz_8, nz_9, nz_10, nz_11, nz_12, nz_13, nz_14, nz_15, nz_16, nz_17, nz_18, nz_19, nz_20, nz_21, nz_22, nz_23, nz_24, nz_25, nz_26, nz_27, nz_28, nz_29, nz_30, nz_31, nz_32, nz_33, nz_34, nz_35, nz_36, nz_37, nz_38, nz_39, nz_40, nz_41, nz_42, nz_43, nz_44, nz_45, nz_46, nz_47, nz_48, nz_49, nz_50, nz_51, nz_63, nz_64, nz_66, nz_127, nz_128, nz_246, nz_247, nz_248, nz_250, nz_251, nz_252, nz_254, nz_255, nz_256, nz_400, nz_2500, nI_add]
    rw [if_neg (ni_in (show i < 12 by omega) (by omega)), hX.2.2.1 i (by omega), so_wide hwl]
    simp only [Option.bind_some, bI_0]
    obtain ⟨n', h⟩ := ih (i + 1) n (by omega) (by omega)
    rw [sl_take X (by omega)] at h
    by_cases e : sp_wd (X.getD i 0) = 2
    · rw [if_neg (by rw [e]; decide)]
      rw [e, ← Nat.add_assoc] at h
      exact ⟨n', h⟩
    · have e1 : sp_wd (X.getD i 0) = 1 := by omega
      rw [if_pos (by rw [e1]; rfl)]
      rw [e1, ← Nat.add_assoc] at h
      exact ⟨n', h⟩
theorem sl_le20 (X : List Nat) : sp_sl X ≤ 2 * X.length := by
  induction X with
  | nil => exact Nat.le_refl _
  | cons t X ih =>
    have := sp_wd_le t
    rw [sp_sl_c, List.length_cons]
    omega
theorem sm_enter {M : zm_M} {X : List Nat} {t : Nat} (hX : rm_X M X) (ht : t < 2 ^ 31) : ∃ M', fn_mo_enter [.inr (35, 0), .inl (nI t)] M = some M' ∧ (sp_sl X + sp_wd t ≤ 10 → M' = zm_up (zm_up M 59 0 X.length (nI t)) 35 0 37 (nI (X.length + 1)) ∧ rm_X M' (X ++ [t])) ∧ (¬ sp_sl X + sp_wd t ≤ 10 → M' = zm_up M 35 0 42 (nI 1)) := by
  have hl := hX.2.1
  have hwd := sp_wd_le t
  have hs := sl_le20 X
  have hsl := sp_sl_len X
  have hfin : ∀ n', ∃ M', rr_mo_enter (n' + 1) 15 [some (.inr (35, 0)), some (.inl (nI t)), some (.inl (nI (sp_wd t + sp_sl X))), some (.inl (nI X.length))] [] M = some M' ∧ (sp_sl X + sp_wd t ≤ 10 → M' = zm_up (zm_up M 59 0 X.length (nI t)) 35 0 37 (nI (X.length + 1)) ∧ rm_X M' (X ++ [t])) ∧ (¬ sp_sl X + sp_wd t ≤ 10 → M' = zm_up M 35 0 42 (nI 1)) := by
    intro n'
    rw [eq_mo_enter_15, hX.1, if_neg (ni_nl (Nat.le_refl _) (by omega) (by omega))]
    simp only [nz_0, nz_1, nz_2, nz_3, nz_4, nz_5, nz_6, nz_7, nz_8, nz_9, nz_10, nz_11, nz_12, nz_13, nz_14, nz_15, nz_16, nz_17, nz_18, nz_19, nz_20, nz_21, nz_22, nz_23, nz_24, nz_25, nz_26, nz_27, nz_28, nz_29, nz_30, nz_31, nz_32, nz_33, nz_34, nz_35, nz_36, nz_37, nz_38, nz_39, nz_40, nz_41, nz_42, nz_43, nz_44, nz_45, nz_46, nz_47, nz_48, nz_49, nz_50, nz_51, nz_63, nz_64, nz_66, nz_127, nz_128, nz_246, nz_247, nz_248, nz_250, nz_251, nz_252, nz_254, nz_255, nz_256, nz_400, nz_2500, nI_add]
    by_cases e : sp_sl X + sp_wd t ≤ 10
    · rw [if_neg (ni_nl (by omega) (by omega) (by omega)), nI_clamp (by omega), if_neg (ni_in (show X.length < 12 by omega) (by omega))]
      refine ⟨_, rfl, fun _ => ⟨rfl, ?_, by simp; omega, ?_, ?_⟩, fun q => absurd e q⟩
      · rw [zu_e, List.length_append]
        rfl
      · intro j hj
        rw [zu_s (by decide), gd_snoc]
        by_cases e2 : j = X.length
        · rw [if_pos e2, e2, zu_e]
        · rw [if_neg e2, zu_k e2]
          rw [List.length_append] at hj
          exact hX.2.2.1 j (by simp at hj; omega)
      · intro u hu
        rcases List.mem_append.mp hu with hu | hu
        · exact hX.2.2.2 u hu
        · rw [List.mem_singleton] at hu
          rw [hu]
          exact ht
    · rw [if_pos (ni_lt (by omega) (by omega) (by omega))]
      exact ⟨_, rfl, fun q => absurd q e, fun _ => rfl⟩
  rw [eq_mo_enter, show (1073741824 : Nat) = 1073741823 + 1 from rfl, eq_mo_enter_0, so_wide ht]
  simp only [Option.bind_some, bI_0, nz_0, nz_1, nz_2, nz_3, nz_4, nz_5, nz_6, nz_7, nz_8, nz_9, nz_10, nz_11, nz_12, nz_13, nz_14, nz_15, nz_16, nz_17, nz_18, nz_19, nz_20, nz_21, nz_22, nz_23, nz_24, nz_25, nz_26, nz_27, nz_28, nz_29, nz_30, nz_31, nz_32, nz_33, nz_34, nz_35, nz_36, nz_37, nz_38, nz_39, nz_40, nz_41, nz_42, nz_43, nz_44, nz_45, nz_46, nz_47, nz_48, nz_49, nz_50, nz_51, nz_63, nz_64, nz_66, nz_127, nz_128, nz_246, nz_247, nz_248, nz_250, nz_251, nz_252, nz_254, nz_255, nz_256, nz_400, nz_2500]
  obtain ⟨n', h⟩ := so_en_lp hX (v1 := nI t) (w := sp_wd t) hwd.2 X.length 0 (1073741823 + 1) (by omega) (by omega)
  rw [List.take_zero, show sp_sl [] = 0 from rfl, Nat.add_zero] at h
  by_cases e : sp_wd t = 2
  · rw [if_neg (by rw [e]; decide)]
    have hf := hfin n'
    rw [← h, e] at hf
    rw [e]
    exact hf
  · have e1 : sp_wd t = 1 := by omega
    rw [if_pos (by rw [e1]; rfl)]
    have hf := hfin n'
    rw [← h, e1] at hf
    rw [e1]
    exact hf
theorem sm_slots_w {M : zm_M} {F : sp_F} (h : rm_F M F) (hw : ∀ t ∈ F.2.1, t < 2 ^ 31) : fn_mo_slots [.inr (35, 0)] M = some (nI (sp_sl F.2.1), M) := by
  have hl := rm_len h
  have lp : ∀ (k i n : Nat), i + k = F.2.1.reverse.length → k < n → rr_mo_slots n 4 [some (.inr (35, 0)), some (.inl (nI (sp_sl (F.2.1.reverse.take i)))), some (.inl (nI i))] [] M = some (nI (sp_sl F.2.1.reverse), M) := by
    have hd : M 35 0 20 = nI F.2.1.reverse.length := by rw [List.length_reverse]; exact h.1.2.2.1
    have hlr : F.2.1.reverse.length ≤ 8 := by rw [List.length_reverse]; exact hl
    intro k
    induction k with
    | zero =>
      intro i n hk hn
      obtain ⟨n, rfl⟩ : ∃ m, n = m + 1 := ⟨n - 1, by omega⟩
      rw [eq_mo_slots_4, hd, if_neg (ni_nl (by omega) (by omega) (by omega)), List.take_of_length_le (by omega)]
    | succ k ih =>
      intro i n hk hn
      obtain ⟨n, rfl⟩ : ∃ m, n = m + 1 := ⟨n - 1, by omega⟩
      have hwl : F.2.1.reverse.getD i 0 < 2 ^ 31 := hw _ (List.mem_reverse.mp (gd_mem (by omega)))
      have hwd := sp_wd_le (F.2.1.reverse.getD i 0)
      have hM : M 48 0 i = nI (F.2.1.reverse.getD i 0) := by
        rw [List.length_reverse] at hk
        rw [gd_rev (by omega)]
        exact h.1.2.2.2.1 i (by omega)
      rw [eq_mo_slots_4, hd, if_pos (ni_lt (by omega) (by omega) (by omega)), nI_clamp (by omega)]
      simp only [nz_0, nz_1, nz_2, nz_3, nz_4, nz_5, nz_6, nz_7, nz_8, nz_9, nz_10, nz_11, nz_12, nz_13, nz_14, nz_15, nz_16, nz_17, nz_18, nz_19, nz_20, nz_21, nz_22, nz_23, nz_24, nz_25, nz_26, nz_27, nz_28, nz_29, nz_30, nz_31, nz_32, nz_33, nz_34, nz_35, nz_36, nz_37, nz_38, nz_39, nz_40, nz_41, nz_42, nz_43, nz_44, nz_45, nz_46, nz_47, nz_48, nz_49, nz_50, nz_51, nz_63, nz_64, nz_66, nz_127, nz_128, nz_246, nz_247, nz_248, nz_250, nz_251, nz_252, nz_254, nz_255, nz_256, nz_400, nz_2500, nI_add]
      rw [if_neg (ni_in (show i < 9 by omega) (by omega)), hM, so_wide hwl]
      simp only [Option.bind_some, bI_0]
      have ih := ih (i + 1) n (by omega) (by omega)
      rw [sl_take _ (show i < F.2.1.reverse.length by omega)] at ih
      by_cases e : sp_wd (F.2.1.reverse.getD i 0) = 2
      · rw [if_neg (by rw [e]; decide)]
        rw [e] at ih
        exact ih
      · have e1 : sp_wd (F.2.1.reverse.getD i 0) = 1 := by omega
        rw [if_pos (by rw [e1]; rfl)]
        rw [e1] at ih
        exact ih
  rw [eq_mo_slots, show (1073741824 : Nat) = 1073741823 + 1 from rfl, eq_mo_slots_0, nz_0, ← sl_rev F.2.1]
  exact lp F.2.1.reverse.length 0 _ (by omega) (by rw [List.length_reverse]; omega)
theorem sm_push_w {M : zm_M} {t : Nat} {F : sp_F} (h : rm_F M F) (hw : ∀ t ∈ F.2.1, t < 2 ^ 31) (ht : t < 2 ^ 31) : ∃ M', fn_mo_push [.inr (35, 0), .inl (nI t)] M = some (bI (sp_psh t F.2.1).isSome, M') ∧ (sp_psh t F.2.1 = none → M' = M) ∧ (∀ s i k, ¬ (s = 35 ∧ k = 20) → s ≠ 48 → M' s i k = M s i k) ∧ ∀ T', sp_psh t F.2.1 = some T' → rm_F M' (F.1, T', F.2.2) := by
  have hl := rm_len h
  have hwd := sp_wd_le t
  have hd : M 35 0 20 = nI F.2.1.length := h.1.2.2.1
  have hsl := sp_sl_len F.2.1
  have h8 := h.2
  rw [eq_mo_push, sm_slots_w h hw]
  simp only [Option.bind_some, nz_0, nz_1, nz_2, nz_3, nz_4, nz_5, nz_6, nz_7, nz_8, nz_9, nz_10, nz_11, nz_12, nz_13, nz_14, nz_15, nz_16, nz_17, nz_18, nz_19, nz_20, nz_21, nz_22, nz_23, nz_24, nz_25, nz_26, nz_27, nz_28, nz_29, nz_30, nz_31, nz_32, nz_33, nz_34, nz_35, nz_36, nz_37, nz_38, nz_39, nz_40, nz_41, nz_42, nz_43, nz_44, nz_45, nz_46, nz_47, nz_48, nz_49, nz_50, nz_51, nz_63, nz_64, nz_66, nz_127, nz_128, nz_246, nz_247, nz_248, nz_250, nz_251, nz_252, nz_254, nz_255, nz_256, nz_400, nz_2500, nI_add]
  rw [so_wide ht]
  simp only [Option.bind_some, bI_0]
  rw [hd, nI_add]
  have fin : sp_sl F.2.1 + sp_wd t ≤ 8 → ∃ M', (if nI F.2.1.length < nI 0 ∨ 9 ≤ (nI F.2.1.length).toNatClampNeg then none else some (nI 1, zm_up (zm_up M 48 0 (nI F.2.1.length).toNatClampNeg (nI t)) 35 0 20 (nI (F.2.1.length + 1)))) = some (bI (sp_psh t F.2.1).isSome, M') ∧ (sp_psh t F.2.1 = none → M' = M) ∧ (∀ s i k, ¬ (s = 35 ∧ k = 20) → s ≠ 48 → M' s i k = M s i k) ∧ ∀ T', sp_psh t F.2.1 = some T' → rm_F M' (F.1, T', F.2.2) := by
    intro hs
    have hp : sp_psh t F.2.1 = some (t :: F.2.1) := by
      unfold sp_psh
      rw [if_pos hs]
    rw [nI_clamp (by omega), if_neg (ni_in (by omega) (by omega)), hp]
    refine ⟨_, rfl, (fun q => by cases q), ?_, ?_⟩
    · intro s i k a b
      by_cases e : s = 35
      · rw [zu_k (by omega), zu_s b]
      · rw [zu_s e, zu_s b]
    intro T' hT
    cases hT
    refine ⟨?_, by show sp_sl (t :: F.2.1) ≤ 8; rw [sp_sl_c]; omega⟩
    have e47 : zm_up (zm_up M 48 0 F.2.1.length (nI t)) 35 0 20 (nI (F.2.1.length + 1)) 47 = M 47 := by rw [zu_s (by decide), zu_s (by decide)]
    have e48 : zm_up (zm_up M 48 0 F.2.1.length (nI t)) 35 0 20 (nI (F.2.1.length + 1)) 48 = zm_up M 48 0 F.2.1.length (nI t) 48 := zu_s (by decide)
    have e20 : zm_up (zm_up M 48 0 F.2.1.length (nI t)) 35 0 20 (nI (F.2.1.length + 1)) 35 0 20 = nI (F.2.1.length + 1) := zu_e
    have e21 : zm_up (zm_up M 48 0 F.2.1.length (nI t)) 35 0 20 (nI (F.2.1.length + 1)) 35 0 21 = M 35 0 21 := by rw [zu_k (by decide), zu_s (by decide)]
    rw [e47, e48, e20, e21]
    refine rp_psh h.1 rfl ?_ ?_
    · exact zu_e
    · intro i hi
      exact zu_k (by omega)
  have fail : ¬ sp_sl F.2.1 + sp_wd t ≤ 8 → ∃ M', some (nI 0, M) = some (bI (sp_psh t F.2.1).isSome, M') ∧ (sp_psh t F.2.1 = none → M' = M) ∧ (∀ s i k, ¬ (s = 35 ∧ k = 20) → s ≠ 48 → M' s i k = M s i k) ∧ ∀ T', sp_psh t F.2.1 = some T' → rm_F M' (F.1, T', F.2.2) := by
    intro hs
    have hp : sp_psh t F.2.1 = none := by
      unfold sp_psh
      rw [if_neg hs]
    rw [hp]
    exact ⟨M, rfl, fun _ => rfl, fun _ _ _ _ _ => rfl, fun T' q => by cases q⟩
  by_cases e : sp_wd t = 2
  · rw [if_neg (by rw [e]; decide)]
    by_cases e8 : sp_sl F.2.1 + 2 ≤ 8
    · rw [if_neg (ni_nl e8 (by omega) (by omega))]
      exact fin (by omega)
    · rw [if_pos (ni_lt (by omega) (by omega) (by omega))]
      exact fail (by omega)
  · rw [if_pos (beq_eq_false_iff_ne.mpr e)]
    by_cases e8 : sp_sl F.2.1 + 1 ≤ 8
    · rw [if_neg (ni_nl e8 (by omega) (by omega))]
      exact fin (by omega)
    · rw [if_pos (ni_lt (by omega) (by omega) (by omega))]
      exact fail (by omega)
/-! all together -/
theorem rd_M.br {M : zm_M} {B D : List Nat} {b : Bool} (h : rd_M M B D b) : rd_M (zm_up M 35 0 42 (nI 1)) B D true := by
  obtain ⟨q, h1, h2, h3, h4⟩ := h
  exact ⟨q, h1, h2, by rw [zu_k (by decide)]; exact h3, zu_e⟩
theorem rd_M.k {M M' : zm_M} {B D : List Nat} {b : Bool} (h : rd_M M B D b) (h1 : M' 35 0 41 = M 35 0 41) (h2 : M' 35 0 42 = M 35 0 42) : rd_M M' B D b := by
  obtain ⟨q, a, b, c, d⟩ := h
  exact ⟨q, a, b, by rw [h1]; exact c, by rw [h2]; exact d⟩
theorem zo_t.w {M M' : zm_M} {B D : List Nat} {br br' : Bool} (h : zo_t M M') (hw : ms_w M B br) (hD : rd_M M' B D br') (hb : ∀ x ∈ D, x < 256) : ms_w M' B br' := by
  obtain ⟨h1, -, ⟨X, h3⟩, F, h4, h5⟩ := hw
  exact ⟨h.B h1, ⟨D, hD, hb⟩, ⟨X, h.X h3⟩, F, h.F h4, h5⟩
theorem sm_tw_w {M : zm_M} {B : List Nat} {br : Bool} (hl : B.length ≤ 400) (h : ms_w M B br) : ∃ M' v, fn_mo_twoNext [.inr (35, 0)] M = some (nI v, M') ∧ v < 65536 ∧ zo_I M M' ∧ ∃ b', ms_w M' B (br || b') := by
  obtain ⟨h1, ⟨D, h2, h2'⟩, h3, h4⟩ := id h
  obtain ⟨M1, a1, a2, a3⟩ := so_two h1 hl h2 h2'
  obtain ⟨k1, k2⟩ := hd_lt h2'
  obtain ⟨k3, k4⟩ := hd_lt k2
  rw [Bool.or_assoc] at a3
  exact ⟨M1, _, a1, by omega, a2.i, _, a2.w h a3 k4⟩
theorem sm_sn {M : zm_M} {B : List Nat} {br : Bool} (hl : B.length ≤ 400) (h : ms_w M B br) : ∃ M', fn_mo_stackNext [.inr (35, 0)] M = some M' ∧ zo_I M M' ∧ (∃ b', ms_w M' B (br || b')) ∧ ∀ X L T b D, br = false → ms_s M B X L T b D → (sp_rt 1 T D = none → ms_w M' B true) ∧ ∀ T' D', sp_rt 1 T D = some (T', D') → ms_s M' B X L T' b D' := by
  obtain ⟨h1, ⟨D, h2, h2'⟩, ⟨X, h3⟩, F, h4, h5⟩ := id h
  obtain ⟨M1, t, D', a1, a2, a3, a4, a5, a6⟩ := so_type h1 hl h2 h2'
  have w1 := a2.w h a4 a5
  obtain ⟨M2, b1, b2, b3, b4⟩ := sm_push_w (a2.F h4) h5 (show t < 2 ^ 31 by omega)
  rw [eq_mo_stackNext, a1, Option.bind_some, b1, Option.bind_some]
  simp only [nz_0, nz_1, nz_2, nz_3, nz_4, nz_5, nz_6, nz_7, nz_8, nz_9, nz_10, nz_11, nz_12, nz_13, nz_14, nz_15, nz_16, nz_17, nz_18, nz_19, nz_20, nz_21, nz_22, nz_23, nz_24, nz_25, nz_26, nz_27, nz_28, nz_29, nz_30, nz_31, nz_32, nz_33, nz_34, nz_35, nz_36, nz_37, nz_38, nz_39, nz_40, nz_41, nz_42, nz_43, nz_44, nz_45, nz_46, nz_47, nz_48, nz_49, nz_50, nz_51, nz_63, nz_64, nz_66, nz_127, nz_128, nz_246, nz_247, nz_248, nz_250, nz_251, nz_252, nz_254, nz_255, nz_256, nz_400, nz_2500, bI_0]
  have z2 : zo_I M1 M2 := fun s i k p q r => b3 s i k (by omega) q
  have keep : ∀ T', sp_psh t F.2.1 = some T' → ms_w M2 B (br || (sp_ty D).isNone) := by
    intro T' hT
    obtain ⟨w1', ⟨D1, w2, w2'⟩, ⟨X1, w3⟩, -⟩ := w1
    refine ⟨⟨?_, ?_⟩, ⟨D1, w2.k (b3 35 0 41 (by omega) (by decide)) (b3 35 0 42 (by omega) (by decide)), w2'⟩, ⟨X1, ?_, w3.2.1, ?_, w3.2.2.2⟩, _, b4 T' hT, ?_⟩
    · rw [b3 35 0 7 (by omega) (by decide)]
      exact w1'.1
    · intro i hi
      rw [b3 46 0 i (by omega) (by decide)]
      exact w1'.2 i hi
    · rw [b3 35 0 37 (by omega) (by decide)]
      exact w3.1
    · intro i hi
      rw [b3 59 0 i (by omega) (by decide)]
      exact w3.2.2.1 i hi
    · intro u hu
      unfold sp_psh at hT
      split at hT
      · cases hT
        rcases List.mem_cons.mp hu with rfl | hu
        · omega
        · exact h5 u hu
      · cases hT
  -- two readings of the same store
  have same : ∀ X' L T b D1, ms_s M B X' L T b D1 → br = false → T = F.2.1 ∧ D1 = D := by
    intro X' L T b D1 hs hbr
    refine ⟨?_, ?_⟩
    · have g1 := hs.2.2.2.2.2.2.1.1.2.2.1
      have g2 := h4.1.2.2.1
      have g3 := rm_len hs.2.2.2.2.2.2.1
      have g4 := rm_len h4
      have hlen : T.length = F.2.1.length := (nI_eq (by show T.length < 2 ^ 31; have : T.length ≤ 8 := g3; omega) (by omega)).mp (by rw [← g2]; exact g1.symm ▸ rfl)
      apply List.ext_getElem?
      intro i
      by_cases hi : i < T.length
      · have q1 := hs.2.2.2.2.2.2.1.1.2.2.2.1 (T.length - 1 - i) (by show T.length - 1 - i < T.length; omega)
        have q2 := h4.1.2.2.2.1 (T.length - 1 - i) (by omega)
        rw [q1] at q2
        have q3 : nI (T.getD (T.length - 1 - (T.length - 1 - i)) 0) = nI (F.2.1.getD (F.2.1.length - 1 - (T.length - 1 - i)) 0) := q2
        rw [show T.length - 1 - (T.length - 1 - i) = i by omega, show F.2.1.length - 1 - (T.length - 1 - i) = i by omega] at q3
        have u1 := sp_wt_lt (hs.2.2.2.2.2.2.2 _ (gd_mem hi))
        have u2 := h5 _ (gd_mem (show i < F.2.1.length by omega))
        have q4 := (nI_eq (by omega) u2).mp q3
        rw [List.getD_eq_getElem?_getD, List.getD_eq_getElem?_getD, List.getElem?_eq_getElem hi, List.getElem?_eq_getElem (by omega)] at q4
        rw [List.getElem?_eq_getElem hi, List.getElem?_eq_getElem (by omega)]
        exact congrArg some q4
      · rw [List.getElem?_eq_none (by omega), List.getElem?_eq_none (by omega)]
    · obtain ⟨q, c1, c2, c3, -⟩ := hs.2.1
      obtain ⟨q', d1, d2, d3, -⟩ := h2
      have := (nI_eq (by omega) (by omega)).mp (c3.symm.trans d3)
      rw [c1, d1, this]
  cases hp : sp_psh t F.2.1 with
  | none =>
    have hM := b2 hp
    subst hM
    rw [if_pos (by rfl)]
    have w3 : ms_w (zm_up M2 35 0 42 (nI 1)) B true := by
      obtain ⟨-, ⟨D1, w2, w2'⟩, -⟩ := id w1
      exact (zo_t.u (k := 42) (x := nI 1) (by omega)).w w1 w2.br w2'
    refine ⟨_, rfl, a2.i.tr (zo_I.u (by omega)), ⟨true, by rw [Bool.or_true]; exact w3⟩, ?_⟩
    intro X' L T b D1 hbr hs
    obtain ⟨e1, e2⟩ := same X' L T b D1 hs hbr
    subst e1 e2
    refine ⟨fun _ => w3, ?_⟩
    intro T' D2 hrt
    unfold sp_rt at hrt
    rw [Option.bind_eq_some_iff] at hrt
    obtain ⟨⟨t0, D0⟩, q1, q2⟩ := hrt
    obtain ⟨e3, e4⟩ := a6 t0 D0 q1
    subst e3 e4
    rw [Option.bind_eq_some_iff] at q2
    obtain ⟨T2, q3, q4⟩ := q2
    rw [hp] at q3
    cases q3
  | some T1 =>
    rw [if_neg (by rw [Option.isSome_some]; decide)]
    refine ⟨M2, rfl, a2.i.tr z2, ⟨_, keep T1 hp⟩, ?_⟩
    intro X' L T b D1 hbr hs
    obtain ⟨e1, e2⟩ := same X' L T b D1 hs hbr
    subst e1 e2
    subst hbr
    refine ⟨?_, ?_⟩
    · intro hrt
      have := keep T1 hp
      have hn : sp_ty D1 = none := by
        cases hty : sp_ty D1 with
        | none => rfl
        | some q =>
          obtain ⟨t0, D0⟩ := q
          obtain ⟨e3, e4⟩ := a6 t0 D0 hty
          subst e3 e4
          unfold sp_rt at hrt
          rw [hty, Option.bind_some] at hrt
          dsimp only at hrt
          rw [hp, Option.bind_some] at hrt
          cases hrt
      rw [hn] at this
      exact this
    · intro T' D2 hrt
      unfold sp_rt at hrt
      rw [Option.bind_eq_some_iff] at hrt
      obtain ⟨⟨t0, D0⟩, q1, q2⟩ := hrt
      obtain ⟨e3, e4⟩ := a6 t0 D0 q1
      subst e3 e4
      rw [Option.bind_eq_some_iff] at q2
      obtain ⟨T2, q3, q4⟩ := q2
      dsimp only at q3 q4
      rw [hp] at q3
      cases q3
      cases q4
      have hwt := (sp_ty_wt hs.2.2.1 q1).1
      rw [q1] at a4
      have a4 : rd_M M1 B D' false := a4
      refine ⟨?_, a4.k (b3 35 0 41 (by omega) (by decide)) (b3 35 0 42 (by omega) (by decide)), a5, ⟨?_, hs.2.2.2.1.2.1, ?_, hs.2.2.2.1.2.2.2⟩, hs.2.2.2.2.1, hs.2.2.2.2.2.1, ?_, ?_⟩
      · have := a2.B h1
        refine ⟨?_, ?_⟩
        · rw [b3 35 0 7 (by omega) (by decide)]
          exact this.1
        · intro i hi
          rw [b3 46 0 i (by omega) (by decide)]
          exact this.2 i hi
      · rw [b3 35 0 37 (by omega) (by decide), a2 35 0 37 (by omega)]
        exact hs.2.2.2.1.1
      · intro i hi
        rw [b3 59 0 i (by omega) (by decide), a2 59 0 i (by omega)]
        exact hs.2.2.2.1.2.2.1 i hi
      · obtain ⟨M3, c1, -, -, c4⟩ := sm_push_w (a2.F hs.2.2.2.2.2.2.1) h5 (show t < 2 ^ 31 by omega)
        rw [c1] at b1
        rw [← (Prod.mk.inj (Option.some.inj b1)).2]
        exact c4 _ hp
      · intro u hu
        unfold sp_psh at hp
        split at hp
        · cases hp
          rcases List.mem_cons.mp hu with rfl | hu
          · exact hwt
          · exact hs.2.2.2.2.2.2.2 u hu
        · cases hp
