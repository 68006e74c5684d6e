/-! the reference: THE FIRST FRAME, the FRAMES of THE FLOW -/
theorem so_first_z : ∀ (k i n : Nat) (M : zm_M), i + k = 10 → k < n → (∀ j, j < i → M 47 0 j = nI 0) → ∃ M' n', rr_mo_first n 4 [some (.inr (35, 0)), some (.inl (nI 0)), some (.inl (nI i))] [] M = rr_mo_first (n' + 1) 4 [some (.inr (35, 0)), some (.inl (nI 0)), some (.inl (nI 10))] [] M' ∧ n ≤ n' + 1 + k ∧ zo_a 47 0 M M' ∧ ∀ j, j < 10 → M' 47 0 j = nI 0 := by
  intro k
  induction k with
  | zero =>
    intro i n M hk hn hM
    obtain ⟨n, rfl⟩ : ∃ m, n = m + 1 := ⟨n - 1, by omega⟩
    have : i = 10 := by omega
    subst this
    exact ⟨M, n, rfl, by omega, zo_a.rf, hM⟩
  | succ k ih =>
    intro i n M hk hn hM
    obtain ⟨n, rfl⟩ : ∃ m, n = m + 1 := ⟨n - 1, by omega⟩
    rw [eq_mo_first_4]
    simp only [nz_0, nz_1, nz_2, nz_3, nz_4, nz_5, nz_6, nz_7, nz_8, nz_9, nz_10, nz_11, nz_12, nz_13, nz_14, nz_15, nz_16, nz_17, nz_18, nz_19, nz_20, nz_21, nz_22, nz_23, nz_24, nz_25, nz_26, nz_27, nz_28, nz_29, nz_30, nz_31, nz_32, nz_33, nz_34, nz_35, nz_36, nz_37, nz_38, nz_39, nz_40, nz_41, nz_42, nz_43, nz_44, nz_45, nz_46, nz_47, nz_48, nz_49, nz_50, nz_51, nz_63, nz_64, nz_66, nz_127, nz_128, nz_246, nz_247, nz_248, nz_250, nz_251, nz_252, nz_254, nz_255, nz_256, nz_400, nz_2500, nI_add]
    rw [if_pos (ni_lt (by omega) (by omega) (by omega)), nI_clamp (by omega), if_neg (ni_in (show i < 10 by omega) (by omega))]
    obtain ⟨M', n', h1, h2, h3, h4⟩ := ih (i + 1) n (zm_up M 47 0 i (nI 0)) (by omega) (by omega) (by
      intro j hj
      by_cases e : j = i
      · subst e
        exact zu_e
      · rw [zu_k e]
        exact hM j (by omega))
    exact ⟨M', n', h1, by omega, zo_a.up.tr h3, h4⟩
theorem so_first_lp {P : sp_P} (hwP : wf_P P) : ∀ (k i n : Nat) (M : zm_M), i + k = (pg_arg P).length → k < n → rm_P P M → (∀ j, j < 10 → M 47 0 j = nI ((sp_xi P i).getD j 0)) → ∃ M', rr_mo_first n 63 [some (.inr (35, 0)), some (.inl (nI (sp_xi P i).length)), some (.inl (nI i))] [] M = some (zm_up (zm_up M' 35 0 20 (nI 0)) 35 0 21 (bI (pg_mode P == 2))) ∧ zo_a 47 0 M M' ∧ ∀ j, j < 10 → M' 47 0 j = nI ((sp_xi P (pg_arg P).length).getD j 0) := by
  have h4 : (pg_arg P).length ≤ 4 := hwP.2.2.2.1
  have hm := hwP.2.2.1
  intro k
  induction k with
  | zero =>
    intro i n M hi hn hP hM
    obtain ⟨n, rfl⟩ : ∃ m, n = m + 1 := ⟨n - 1, by omega⟩
    rw [eq_mo_first_63, hP.2.2.2.2.1, if_neg (ni_nl (by omega) (by omega) (by omega)), hP.2.2.1]
    simp only [nz_0, nz_1, nz_2, nz_3, nz_4, nz_5, nz_6, nz_7, nz_8, nz_9, nz_10, nz_11, nz_12, nz_13, nz_14, nz_15, nz_16, nz_17, nz_18, nz_19, nz_20, nz_21, nz_22, nz_23, nz_24, nz_25, nz_26, nz_27, nz_28, nz_29, nz_30, nz_31, nz_32, nz_33, nz_34, nz_35, nz_36, nz_37, nz_38, nz_39, nz_40, nz_41, nz_42, nz_43, nz_44, nz_45, nz_46, nz_47, nz_48, nz_49, nz_50, nz_51, nz_63, nz_64, nz_66, nz_127, nz_128, nz_246, nz_247, nz_248, nz_250, nz_251, nz_252, nz_254, nz_255, nz_256, nz_400, nz_2500]
    have : i = (pg_arg P).length := by omega
    rw [this] at hM
    refine ⟨M, ?_, zo_a.rf, hM⟩
    by_cases e : pg_mode P = 2
    · rw [if_pos (by rw [e]), show (pg_mode P == 2) = true by simp [e]]
      rfl
    · rw [if_neg (ni_ne e (by omega) (by omega)), show (pg_mode P == 2) = false from beq_eq_false_iff_ne.mpr e]
      rfl
  | succ k ih =>
    intro i n M hi hn hP hM
    obtain ⟨n, rfl⟩ : ∃ m, n = m + 1 := ⟨n - 1, by omega⟩
    have hlt := sp_xi_lt hwP (show i < _ by omega)
    have hwl := sp_wt_lt (wf_arg hwP i)
    have hwd := sp_wd_le ((pg_arg P).getD i 0)
    rw [eq_mo_first_63, hP.2.2.2.2.1, if_pos (ni_lt (by omega) (by omega) (by omega)), nI_clamp (by omega), nI_clamp (by omega), hP.2.2.2.2.2.1 i (by omega)]
    simp only [nz_0, nz_1, nz_2, nz_3, nz_4, nz_5, nz_6, nz_7, nz_8, nz_9, nz_10, nz_11, nz_12, nz_13, nz_14, nz_15, nz_16, nz_17, nz_18, nz_19, nz_20, nz_21, nz_22, nz_23, nz_24, nz_25, nz_26, nz_27, nz_28, nz_29, nz_30, nz_31, nz_32, nz_33, nz_34, nz_35, nz_36, nz_37, nz_38, nz_39, nz_40, nz_41, nz_42, nz_43, nz_44, nz_45, nz_46, nz_47, nz_48, nz_49, nz_50, nz_51, nz_63, nz_64, nz_66, nz_127, nz_128, nz_246, nz_247, nz_248, nz_250, nz_251, nz_252, nz_254, nz_255, nz_256, nz_400, nz_2500, nI_add]
    rw [if_neg (ni_in (show i < 4 by omega) (by omega)), if_neg (ni_in (show (sp_xi P i).length < 10 by omega) (by omega)), if_neg (ni_in (show i < 4 by omega) (by omega)), so_wide (by omega)]
    simp only [Option.bind_some, bI_0]
    obtain ⟨M', h1, h2, h3⟩ := ih (i + 1) n (zm_up M 47 0 (sp_xi P i).length (nI ((pg_arg P).getD i 0))) (by omega) (by omega) (zo_M.l.P hP) (by
      intro j hj
      rw [sp_xi_gd (by omega)]
      by_cases e : j = (sp_xi P i).length
      · rw [if_pos e, e]
        exact zu_e
      · rw [if_neg e, zu_k e]
        exact hM j hj)
    rw [sp_xi_len (by omega)] at h1
    by_cases e : sp_wd ((pg_arg P).getD i 0) = 2
    · rw [if_neg (by rw [e]; decide)]
      rw [e] at h1
      exact ⟨M', h1, zo_a.up.tr h2, h3⟩
    · have e1 : sp_wd ((pg_arg P).getD i 0) = 1 := by omega
      rw [if_pos (by rw [e1]; rfl)]
      rw [e1] at h1
      exact ⟨M', h1, zo_a.up.tr h2, h3⟩
theorem zo_a.M {M M' : zm_M} (h : zo_a 47 0 M M') : zo_M M M' := fun s i k a b c => h s i k (Or.inl b)
theorem sm_first {P : sp_P} {M : zm_M} (hwP : wf_P P) (hP : rm_P P M) : ∃ M', fn_mo_first [.inr (35, 0)] M = some M' ∧ zo_M M M' ∧ rm_F M' (sp_fst P) := by
  have h4 : (pg_arg P).length ≤ 4 := hwP.2.2.2.1
  have hown : pg_own P < 8 := hwP.2.1
  have hm := hwP.2.2.1
  rw [eq_mo_first, show (1073741824 : Nat) = 1073741823 + 1 from rfl, eq_mo_first_0]
  simp only [nz_0, nz_1, nz_2, nz_3, nz_4, nz_5, nz_6, nz_7, nz_8, nz_9, nz_10, nz_11, nz_12, nz_13, nz_14, nz_15, nz_16, nz_17, nz_18, nz_19, nz_20, nz_21, nz_22, nz_23, nz_24, nz_25, nz_26, nz_27, nz_28, nz_29, nz_30, nz_31, nz_32, nz_33, nz_34, nz_35, nz_36, nz_37, nz_38, nz_39, nz_40, nz_41, nz_42, nz_43, nz_44, nz_45, nz_46, nz_47, nz_48, nz_49, nz_50, nz_51, nz_63, nz_64, nz_66, nz_127, nz_128, nz_246, nz_247, nz_248, nz_250, nz_251, nz_252, nz_254, nz_255, nz_256, nz_400, nz_2500]
  obtain ⟨M1, n1, a1, a2, a3, a4⟩ := so_first_z 10 0 (1073741823 + 1) M (by omega) (by omega) (fun j hj => by omega)
  have hP1 := a3.M.P hP
  rw [a1, eq_mo_first_4]
  simp only [nz_0, nz_1, nz_2, nz_3, nz_4, nz_5, nz_6, nz_7, nz_8, nz_9, nz_10, nz_11, nz_12, nz_13, nz_14, nz_15, nz_16, nz_17, nz_18, nz_19, nz_20, nz_21, nz_22, nz_23, nz_24, nz_25, nz_26, nz_27, nz_28, nz_29, nz_30, nz_31, nz_32, nz_33, nz_34, nz_35, nz_36, nz_37, nz_38, nz_39, nz_40, nz_41, nz_42, nz_43, nz_44, nz_45, nz_46, nz_47, nz_48, nz_49, nz_50, nz_51, nz_63, nz_64, nz_66, nz_127, nz_128, nz_246, nz_247, nz_248, nz_250, nz_251, nz_252, nz_254, nz_255, nz_256, nz_400, nz_2500, pk_mul, nI_add]
  rw [if_neg (by decide), hP1.2.2.1]
  have hx0 : sp_xi P 0 = sp_hd P := by
    unfold sp_xi
    rw [List.take_zero]
    exact List.append_nil _
  have rest : ∀ (M3 : zm_M) (l : Nat), l = (sp_xi P 0).length → zo_M M M3 → (∀ j, j < 10 → M3 47 0 j = nI ((sp_xi P 0).getD j 0)) → ∃ M', rr_mo_first (n1 + 1) 63 [some (.inr (35, 0)), some (.inl (nI l)), some (.inl (nI 0))] [] M3 = some M' ∧ zo_M M M' ∧ rm_F M' (sp_fst P) := by
    intro M3 l hl hz hM
    obtain ⟨M', h1, h2, h3⟩ := so_first_lp hwP (pg_arg P).length 0 (n1 + 1) M3 (by omega) (by omega) (hz.P hP) hM
    rw [hl]
    refine ⟨_, h1, ((hz.tr h2.M).tr zo_M.d).tr zo_M.r, ⟨(fst_ok hwP).2.1, ?_, ?_, ?_, ?_⟩, Nat.zero_le 8⟩
    · intro j hj
      rw [zu_s (by decide), zu_s (by decide), sp_fst_gd hwP hj]
      exact h3 j hj
    · rw [zu_k (by decide), zu_e]
      rfl
    · intro i hi
      exact absurd hi (by show ¬ i < 0; omega)
    · exact zu_e
  rcases (show pg_mode P = 0 ∨ pg_mode P = 1 ∨ pg_mode P = 2 by omega) with e | e | e
  · rw [if_neg (ni_nl (by omega) (by omega) (by omega))]
    have hh : sp_hd P = [] := by unfold sp_hd; rw [if_pos e]
    refine rest M1 0 (by rw [hx0, hh]; rfl) a3.M (by
      intro j hj
      rw [hx0, hh, a4 j hj]
      rfl)
  · rw [if_pos (ni_lt (by omega) (by omega) (by omega)), if_neg (ni_ne (by omega) (by omega) (by omega)), if_neg (by decide), hP1.2.1, pk_mul, nI_add, nI_clamp (by omega)]
    have hh : sp_hd P = [16 * pg_own P + 7] := by unfold sp_hd; rw [if_neg (by omega), if_neg (by omega)]
    refine rest (zm_up M1 47 0 0 (nI (16 * pg_own P + 7))) 1 (by rw [hx0, hh]; rfl) (a3.M.tr zo_M.l) (by
      intro j hj
      rw [hx0, hh]
      by_cases e0 : j = 0
      · subst e0
        rw [zu_e]
        rfl
      · rw [zu_k e0, a4 j hj, gd_out (by simp; omega)])
  · rw [if_pos (ni_lt (by omega) (by omega) (by omega)), if_pos (by rw [e]), if_neg (by decide), nI_clamp (by omega)]
    have hh : sp_hd P = [6] := by unfold sp_hd; rw [if_neg (by omega), if_pos e]
    refine rest (zm_up M1 47 0 0 (nI 6)) 1 (by rw [hx0, hh]; rfl) (a3.M.tr zo_M.l) (by
      intro j hj
      rw [hx0, hh]
      by_cases e0 : j = 0
      · subst e0
        rw [zu_e]
        rfl
      · rw [zu_k e0, a4 j hj, gd_out (by simp; omega)])
/-- the FRAME of a PLACE -/
def rm_G (M : zm_M) (p : Nat) (F : sp_F) : Prop := rp (fun j => M 52 0 (10 * p + j)) (fun j => M 53 0 (8 * p + j)) (M 51 0 p) (M 50 0 p) F
def rm_S (M : zm_M) (A : af_A) : Prop := ∀ p, p < 50 → M 49 0 p = bI (A p).isSome ∧ ∀ F, A p = some F → rm_G M p F
theorem so_fe_lo {p : Nat} (hp : p < 50) : ∀ (k i n : Nat) (M : zm_M), i + k = 10 → k < n → (∀ j, j < i → M 47 0 j = M 52 0 (10 * p + j)) → ∃ M' n', rr_mo_fetch n 22 [some (.inr (35, 0)), some (.inl (nI p)), some (.inl (nI i))] [] M = rr_mo_fetch (n' + 1) 53 [some (.inr (35, 0)), some (.inl (nI p)), some (.inl (nI 0))] [] M' ∧ n ≤ n' + 1 + k ∧ zo_a 47 0 M M' ∧ ∀ j, j < 10 → M' 47 0 j = M 52 0 (10 * p + j) := by
  intro k
  induction k with
  | zero =>
    intro i n M hk hn hM
    obtain ⟨n, rfl⟩ : ∃ m, n = m + 1 := ⟨n - 1, by omega⟩
    rw [eq_mo_fetch_22]
    simp only [nz_0, nz_1, nz_2, nz_3, nz_4, nz_5, nz_6, nz_7, nz_8, nz_9, nz_10, nz_11, nz_12, nz_13, nz_14, nz_15, nz_16, nz_17, nz_18, nz_19, nz_20, nz_21, nz_22, nz_23, nz_24, nz_25, nz_26, nz_27, nz_28, nz_29, nz_30, nz_31, nz_32, nz_33, nz_34, nz_35, nz_36, nz_37, nz_38, nz_39, nz_40, nz_41, nz_42, nz_43, nz_44, nz_45, nz_46, nz_47, nz_48, nz_49, nz_50, nz_51, nz_63, nz_64, nz_66, nz_127, nz_128, nz_246, nz_247, nz_248, nz_250, nz_251, nz_252, nz_254, nz_255, nz_256, nz_400, nz_2500]
    rw [if_neg (ni_nl (by omega) (by omega) (by omega))]
    exact ⟨M, n, rfl, by omega, zo_a.rf, fun j hj => hM j (by omega)⟩
  | succ k ih =>
    intro i n M hk hn hM
    obtain ⟨n, rfl⟩ : ∃ m, n = m + 1 := ⟨n - 1, by omega⟩
    rw [eq_mo_fetch_22]
    simp only [nz_0, nz_1, nz_2, nz_3, nz_4, nz_5, nz_6, nz_7, nz_8, nz_9, nz_10, nz_11, nz_12, nz_13, nz_14, nz_15, nz_16, nz_17, nz_18, nz_19, nz_20, nz_21, nz_22, nz_23, nz_24, nz_25, nz_26, nz_27, nz_28, nz_29, nz_30, nz_31, nz_32, nz_33, nz_34, nz_35, nz_36, nz_37, nz_38, nz_39, nz_40, nz_41, nz_42, nz_43, nz_44, nz_45, nz_46, nz_47, nz_48, nz_49, nz_50, nz_51, nz_63, nz_64, nz_66, nz_127, nz_128, nz_246, nz_247, nz_248, nz_250, nz_251, nz_252, nz_254, nz_255, nz_256, nz_400, nz_2500, pk_mul, nI_add]
    rw [if_pos (ni_lt (by omega) (by omega) (by omega)), nI_clamp (by omega), nI_clamp (by omega), if_neg (ni_in (show 10 * p + i < 500 by omega) (by omega)), if_neg (ni_in (show i < 10 by omega) (by omega))]
    obtain ⟨M', n', h1, h2, h3, h4⟩ := ih (i + 1) n (zm_up M 47 0 i (M 52 0 (10 * p + i))) (by omega) (by omega) (by
      intro j hj
      rw [zu_s (s' := 52) (by decide)]
      by_cases e : j = i
      · subst e
        exact zu_e
      · rw [zu_k e]
        exact hM j (by omega))
    refine ⟨M', n', h1, by omega, zo_a.up.tr h3, ?_⟩
    intro j hj
    rw [h4 j hj, zu_s (by decide)]
theorem so_fe_st {p d : Nat} (hp : p < 50) (hd8 : d ≤ 8) : ∀ (k i n : Nat) (M : zm_M), i + k = d → k < n → M 35 0 20 = nI d → (∀ j, j < i → M 48 0 j = M 53 0 (8 * p + j)) → ∃ M', rr_mo_fetch n 53 [some (.inr (35, 0)), some (.inl (nI p)), some (.inl (nI i))] [] M = some M' ∧ zo_a 48 0 M M' ∧ ∀ j, j < d → M' 48 0 j = M 53 0 (8 * p + j) := by
  intro k
  induction k with
  | zero =>
    intro i n M hk hn hd hM
    obtain ⟨n, rfl⟩ : ∃ m, n = m + 1 := ⟨n - 1, by omega⟩
    rw [eq_mo_fetch_53, hd, if_neg (ni_nl (by omega) (by omega) (by omega))]
    exact ⟨M, rfl, zo_a.rf, fun j hj => hM j (by omega)⟩
  | succ k ih =>
    intro i n M hk hn hd hM
    obtain ⟨n, rfl⟩ : ∃ m, n = m + 1 := ⟨n - 1, by omega⟩
    rw [eq_mo_fetch_53, hd]
    simp only [nz_0, nz_1, nz_2, nz_3, nz_4, nz_5, nz_6, nz_7, nz_8, nz_9, nz_10, nz_11, nz_12, nz_13, nz_14, nz_15, nz_16, nz_17, nz_18, nz_19, nz_20, nz_21, nz_22, nz_23, nz_24, nz_25, nz_26, nz_27, nz_28, nz_29, nz_30, nz_31, nz_32, nz_33, nz_34, nz_35, nz_36, nz_37, nz_38, nz_39, nz_40, nz_41, nz_42, nz_43, nz_44, nz_45, nz_46, nz_47, nz_48, nz_49, nz_50, nz_51, nz_63, nz_64, nz_66, nz_127, nz_128, nz_246, nz_247, nz_248, nz_250, nz_251, nz_252, nz_254, nz_255, nz_256, nz_400, nz_2500, pk_mul, nI_add]
    rw [if_pos (ni_lt (by omega) (by omega) (by omega)), nI_clamp (by omega), nI_clamp (by omega), if_neg (ni_in (show 8 * p + i < 400 by omega) (by omega)), if_neg (ni_in (show i < 9 by omega) (by omega))]
    obtain ⟨M', h1, h3, h4⟩ := ih (i + 1) n (zm_up M 48 0 i (M 53 0 (8 * p + i))) (by omega) (by omega) (by rw [zu_s (by decide)]; exact hd) (by
      intro j hj
      rw [zu_s (s' := 53) (by decide)]
      by_cases e : j = i
      · subst e
        exact zu_e
      · rw [zu_k e]
        exact hM j (by omega))
    refine ⟨M', h1, zo_a.up.tr h3, ?_⟩
    intro j hj
    rw [h4 j hj, zu_s (by decide)]
theorem sm_fetch {M : zm_M} {p : Nat} {F : sp_F} (hp : p < 50) (h : rm_G M p F) (h8 : sp_sl F.2.1 ≤ 8) : ∃ M', fn_mo_fetch [.inr (35, 0), .inl (nI p)] M = some M' ∧ zo_M M M' ∧ rm_F M' F := by
  have hl : F.2.1.length ≤ 8 := Nat.le_trans (sp_sl_len _) h8
  have hd : M 51 0 p = nI F.2.1.length := h.2.2.1
  have hr : M 50 0 p = bI F.2.2 := h.2.2.2.2
  rw [eq_mo_fetch, show (1073741824 : Nat) = 1073741823 + 1 from rfl, eq_mo_fetch_0]
  simp only [nz_0, nz_1, nz_2, nz_3, nz_4, nz_5, nz_6, nz_7, nz_8, nz_9, nz_10, nz_11, nz_12, nz_13, nz_14, nz_15, nz_16, nz_17, nz_18, nz_19, nz_20, nz_21, nz_22, nz_23, nz_24, nz_25, nz_26, nz_27, nz_28, nz_29, nz_30, nz_31, nz_32, nz_33, nz_34, nz_35, nz_36, nz_37, nz_38, nz_39, nz_40, nz_41, nz_42, nz_43, nz_44, nz_45, nz_46, nz_47, nz_48, nz_49, nz_50, nz_51, nz_63, nz_64, nz_66, nz_127, nz_128, nz_246, nz_247, nz_248, nz_250, nz_251, nz_252, nz_254, nz_255, nz_256, nz_400, nz_2500]
  rw [nI_clamp (by omega)]
  simp only [if_neg (ni_in hp (show p < 2 ^ 31 by omega))]
  rw [hr, hd, if_pos (bI_01 _)]
  obtain ⟨M1, n1, a1, a2, a3, a4⟩ := so_fe_lo hp 10 0 (1073741823 + 1) (zm_up (zm_up M 35 0 20 (nI F.2.1.length)) 35 0 21 (bI F.2.2)) (by omega) (by omega) (fun j hj => by omega)
  obtain ⟨M2, b1, b3, b4⟩ := so_fe_st (d := F.2.1.length) hp hl F.2.1.length 0 (n1 + 1) M1 (by omega) (by omega) (by rw [a3.s (by decide), zu_k (by decide), zu_e]) (fun j hj => by omega)
  rw [a1, b1]
  refine ⟨M2, rfl, ?_, ⟨h.1, ?_, ?_, ?_, ?_⟩, h8⟩
  · have hz : zo_M (zm_up (zm_up M 35 0 20 (nI F.2.1.length)) 35 0 21 (bI F.2.2)) M2 := by
      intro s i k x y z
      rw [b3 s i k (by omega), a3 s i k (by omega)]
    exact (zo_M.d.tr zo_M.r).tr hz
  · intro j hj
    rw [b3.s (by decide), a4 j hj, zu_s (by decide), zu_s (by decide)]
    exact h.2.1 j hj
  · rw [b3.s (by decide), a3.s (by decide), zu_k (by decide), zu_e]
  · intro j hj
    rw [b4 j hj, a3.s (by decide), zu_s (by decide), zu_s (by decide)]
    exact h.2.2.2.1 j hj
  · rw [b3.s (by decide), a3.s (by decide), zu_e]
