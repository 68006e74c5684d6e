theorem sp_off_s {P : sp_P} {k : Nat} (h : k < pg_n P) : sp_off P (k + 1) = sp_off P k + sp_len (pg_op P k) := by
  unfold sp_off pg_n at *
  rw [List.take_add_one, List.getElem?_eq_getElem h, List.map_append, List.sum_append]
  unfold pg_op
  rw [List.getD_eq_getElem?_getD, List.getElem?_eq_getElem h]
  simp
theorem so_off_lp {P : sp_P} {M : zm_M} (hwP : wf_P P) (hP : rm_P P M) {p : Nat} (hp : p ≤ pg_n P) : ∀ (d k n : Nat), k + d = p → d < n → rr_mo_offset n 4 [some (.inr (35, 0)), some (.inl (nI p)), some (.inl (nI (sp_off P k))), some (.inl (nI k))] [] M = some (nI (sp_off P p), M) := by
  have h50 := hwP.n
  intro d
  induction d with
  | zero =>
    intro k n hk hn
    obtain ⟨n, rfl⟩ : ∃ m, n = m + 1 := ⟨n - 1, by omega⟩
    rw [eq_mo_offset_4, if_neg (ni_nl (by omega) (by omega) (by omega))]
    have : k = p := by omega
    rw [this]
  | succ d ih =>
    intro k n hk hn
    obtain ⟨n, rfl⟩ : ∃ m, n = m + 1 := ⟨n - 1, by omega⟩
    have h40 : pg_op P k < 40 := (wf_at hwP (show k < pg_n P by omega)).1
    rw [eq_mo_offset_4, if_pos (ni_lt (by omega) (by omega) (by omega)), nI_clamp (by omega)]
    simp only [nz_0, nz_1, nz_2, nz_3, nz_4, nz_5, nz_6, nz_7, nz_8, nz_9, nz_10, nz_11, nz_12, nz_13, nz_14, nz_15, nz_16, nz_17, nz_18, nz_19, nz_20, nz_21, nz_22, nz_23, nz_24, nz_25, nz_26, nz_27, nz_28, nz_29, nz_30, nz_31, nz_32, nz_33, nz_34, nz_35, nz_36, nz_37, nz_38, nz_39, nz_40, nz_41, nz_42, nz_43, nz_44, nz_45, nz_46, nz_47, nz_48, nz_49, nz_50, nz_51, nz_63, nz_64, nz_66, nz_127, nz_128, nz_246, nz_247, nz_248, nz_250, nz_251, nz_252, nz_254, nz_255, nz_256, nz_400, nz_2500, nI_add]
    rw [if_neg (ni_in (show k < 50 by omega) (by omega)), (hP.i k (by omega)).1, so_sizeOf (by omega)]
    simp only [Option.bind_some, nI_add]
    rw [← sp_off_s (by omega)]
    exact ih (k + 1) n (by omega) (by omega)
theorem so_offset {P : sp_P} {M : zm_M} (hwP : wf_P P) (hP : rm_P P M) {p : Nat} (hp : p ≤ pg_n P) : fn_mo_offset [.inr (35, 0), .inl (nI p)] M = some (nI (sp_off P p), M) := by
  have h50 := hwP.n
  rw [eq_mo_offset, show (1073741824 : Nat) = 1073741823 + 1 from rfl, eq_mo_offset_0, nz_0]
  exact so_off_lp hwP hP hp p 0 _ (by omega) (by omega)
theorem so_pl_lp {P : sp_P} {M : zm_M} (hwP : wf_P P) (hP : rm_P P M) {k : Nat} (hk : k < 2 ^ 31) : ∀ (d i n : Nat), i + d = pg_n P → d < n → rr_mo_placeAt n 4 [some (.inr (35, 0)), some (.inl (nI k)), some (.inl (nI (sp_off P i))), some (.inl (nI i))] [] M = some (vz ((List.range' i d).find? fun p => sp_off P p == k), M) := by
  have h50 := hwP.n
  intro d
  induction d with
  | zero =>
    intro i n hi hn
    obtain ⟨n, rfl⟩ : ∃ m, n = m + 1 := ⟨n - 1, by omega⟩
    rw [eq_mo_placeAt_4, hP.n, if_neg (ni_nl (by omega) (by omega) (by omega)), nz_1]
    rfl
  | succ d ih =>
    intro i n hi hn
    obtain ⟨n, rfl⟩ : ∃ m, n = m + 1 := ⟨n - 1, by omega⟩
    have ho := sp_off_le P i
    have h40 : pg_op P i < 40 := (wf_at hwP (show i < pg_n P by omega)).1
    rw [eq_mo_placeAt_4, hP.n, if_pos (ni_lt (by omega) (by omega) (by omega)), nI_clamp (by omega), List.range'_succ, List.find?_cons]
    simp only [nz_0, nz_1, nz_2, nz_3, nz_4, nz_5, nz_6, nz_7, nz_8, nz_9, nz_10, nz_11, nz_12, nz_13, nz_14, nz_15, nz_16, nz_17, nz_18, nz_19, nz_20, nz_21, nz_22, nz_23, nz_24, nz_25, nz_26, nz_27, nz_28, nz_29, nz_30, nz_31, nz_32, nz_33, nz_34, nz_35, nz_36, nz_37, nz_38, nz_39, nz_40, nz_41, nz_42, nz_43, nz_44, nz_45, nz_46, nz_47, nz_48, nz_49, nz_50, nz_51, nz_63, nz_64, nz_66, nz_127, nz_128, nz_246, nz_247, nz_248, nz_250, nz_251, nz_252, nz_254, nz_255, nz_256, nz_400, nz_2500, nI_add]
    by_cases e : sp_off P i = k
    · rw [if_pos (by rw [e]), show (sp_off P i == k) = true by simp [e]]
      rfl
    · rw [if_neg (ni_ne e (by omega) (by omega)), show (sp_off P i == k) = false by simp [e], if_neg (ni_in (show i < 50 by omega) (by omega)), (hP.i i (by omega)).1, so_sizeOf (by omega)]
      simp only [Option.bind_some, nI_add]
      rw [← sp_off_s (by omega)]
      exact ih (i + 1) n (by omega) (by omega)
theorem so_placeAt {P : sp_P} {M : zm_M} (hwP : wf_P P) (hP : rm_P P M) {k : Nat} (hk : k < 2 ^ 31) : fn_mo_placeAt [.inr (35, 0), .inl (nI k)] M = some (vz (sp_at P k), M) := by
  have h50 := hwP.n
  rw [eq_mo_placeAt, show (1073741824 : Nat) = 1073741823 + 1 from rfl, eq_mo_placeAt_0, nz_0]
  unfold sp_at
  rw [List.range_eq_range']
  exact so_pl_lp hwP hP hk (pg_n P) 0 _ (by omega) (by omega)
/-- what a LOAD or a STORE moves: its TYPE, or -1 for all references -/
def vt (k : Nat) : Int32 := if sp_tk k = 7 then -nI 1 else nI (sp_tk k)
theorem so_typeFor {k : Nat} (hk : k < 5) (M : zm_M) : fn_mo_typeFor [.inl (nI k)] M = some (vt k, M) := by
  rw [eq_mo_typeFor]
  simp only [nz_0, nz_1, nz_2, nz_3, nz_4, nz_5, nz_6, nz_7, nz_8, nz_9, nz_10, nz_11, nz_12, nz_13, nz_14, nz_15, nz_16, nz_17, nz_18, nz_19, nz_20, nz_21, nz_22, nz_23, nz_24, nz_25, nz_26, nz_27, nz_28, nz_29, nz_30, nz_31, nz_32, nz_33, nz_34, nz_35, nz_36, nz_37, nz_38, nz_39, nz_40, nz_41, nz_42, nz_43, nz_44, nz_45, nz_46, nz_47, nz_48, nz_49, nz_50, nz_51, nz_63, nz_64, nz_66, nz_127, nz_128, nz_246, nz_247, nz_248, nz_250, nz_251, nz_252, nz_254, nz_255, nz_256, nz_400, nz_2500]
  rcases (show k = 0 ∨ k = 1 ∨ k = 2 ∨ k = 3 ∨ k = 4 by omega) with rfl | rfl | rfl | rfl | rfl <;> rfl
theorem vt_7 {k : Nat} (h : sp_tk k = 7) : vt k = -nI 1 := by unfold vt; rw [if_pos h]
theorem vt_n {k : Nat} (h : sp_tk k ≠ 7) : vt k = nI (sp_tk k) := by unfold vt; rw [if_neg h]
theorem sm_load {P : sp_P} {M : zm_M} {o a : Nat} {F : sp_F} (h : rm_F M F) (hw : wf_F F) (h1 : 21 ≤ o) (h2 : o ≤ 25) (ha : a < 10) : sm_R M (fn_mo_move [.inr (35, 0), .inl (nI o), .inl (nI a)] M) (if sp_ok (F.1.getD a 0) (o - 21) then (sp_psh (F.1.getD a 0) F.2.1).map fun T => (F.1, T, F.2.2) else none) := by
  have hwt := wt_gd hw.1 a
  have hwl := sp_wt_lt hwt
  have hM : M 47 0 a = nI (F.1.getD a 0) := h.1.2.1 a ha
  have hfin : sm_R M (rr_mo_move (0 + 1) 56 [some (.inr (35, 0)), some (.inl (nI o)), some (.inl (nI a)), some (.inl (vt (o - 21))), none] [] M) ((sp_psh (F.1.getD a 0) F.2.1).map fun T => (F.1, T, F.2.2)) := by
    rw [eq_mo_move_56, nI_clamp (by omega)]
    simp only [nz_0, nz_1, nz_2, nz_3, nz_4, nz_5, nz_6, nz_7, nz_8, nz_9, nz_10, nz_11, nz_12, nz_13, nz_14, nz_15, nz_16, nz_17, nz_18, nz_19, nz_20, nz_21, nz_22, nz_23, nz_24, nz_25, nz_26, nz_27, nz_28, nz_29, nz_30, nz_31, nz_32, nz_33, nz_34, nz_35, nz_36, nz_37, nz_38, nz_39, nz_40, nz_41, nz_42, nz_43, nz_44, nz_45, nz_46, nz_47, nz_48, nz_49, nz_50, nz_51, nz_63, nz_64, nz_66, nz_127, nz_128, nz_246, nz_247, nz_248, nz_250, nz_251, nz_252, nz_254, nz_255, nz_256, nz_400, nz_2500]
    rw [if_neg (ni_in ha (by omega)), hM]
    have := sm_R.n (sm_psh (M0 := M) zo_M.rf h hw hwt)
    obtain ⟨M', q1, q2, q3⟩ := sm_psh (M0 := M) zo_M.rf h hw hwt
    rw [q1, Option.bind_some] at this ⊢
    simp only [eq_mo_move_73, eq_mo_move_74, nz_0, nz_1, nz_2, nz_3, nz_4, nz_5, nz_6, nz_7, nz_8, nz_9, nz_10, nz_11, nz_12, nz_13, nz_14, nz_15, nz_16, nz_17, nz_18, nz_19, nz_20, nz_21, nz_22, nz_23, nz_24, nz_25, nz_26, nz_27, nz_28, nz_29, nz_30, nz_31, nz_32, nz_33, nz_34, nz_35, nz_36, nz_37, nz_38, nz_39, nz_40, nz_41, nz_42, nz_43, nz_44, nz_45, nz_46, nz_47, nz_48, nz_49, nz_50, nz_51, nz_63, nz_64, nz_66, nz_127, nz_128, nz_246, nz_247, nz_248, nz_250, nz_251, nz_252, nz_254, nz_255, nz_256, nz_400, nz_2500]
    rw [if_pos (Or.inl trivial), if_pos (Or.inr trivial)]
    exact this
  have hno : sm_R M (rr_mo_move (0 + 1) 73 [some (.inr (35, 0)), some (.inl (nI o)), some (.inl (nI a)), some (.inl (vt (o - 21))), none] [] M) none := by
    rw [eq_mo_move_73, eq_mo_move_74]
    simp only [nz_0, nz_1, nz_2, nz_3, nz_4, nz_5, nz_6, nz_7, nz_8, nz_9, nz_10, nz_11, nz_12, nz_13, nz_14, nz_15, nz_16, nz_17, nz_18, nz_19, nz_20, nz_21, nz_22, nz_23, nz_24, nz_25, nz_26, nz_27, nz_28, nz_29, nz_30, nz_31, nz_32, nz_33, nz_34, nz_35, nz_36, nz_37, nz_38, nz_39, nz_40, nz_41, nz_42, nz_43, nz_44, nz_45, nz_46, nz_47, nz_48, nz_49, nz_50, nz_51, nz_63, nz_64, nz_66, nz_127, nz_128, nz_246, nz_247, nz_248, nz_250, nz_251, nz_252, nz_254, nz_255, nz_256, nz_400, nz_2500]
    rw [if_pos (Or.inl trivial)]
    exact sm_R.no zo_M.rf
  rw [eq_mo_move, show (1 : Nat) = 0 + 1 from rfl, eq_mo_move_0]
  simp only [nz_0, nz_1, nz_2, nz_3, nz_4, nz_5, nz_6, nz_7, nz_8, nz_9, nz_10, nz_11, nz_12, nz_13, nz_14, nz_15, nz_16, nz_17, nz_18, nz_19, nz_20, nz_21, nz_22, nz_23, nz_24, nz_25, nz_26, nz_27, nz_28, nz_29, nz_30, nz_31, nz_32, nz_33, nz_34, nz_35, nz_36, nz_37, nz_38, nz_39, nz_40, nz_41, nz_42, nz_43, nz_44, nz_45, nz_46, nz_47, nz_48, nz_49, nz_50, nz_51, nz_63, nz_64, nz_66, nz_127, nz_128, nz_246, nz_247, nz_248, nz_250, nz_251, nz_252, nz_254, nz_255, nz_256, nz_400, nz_2500]
  rw [if_pos (ni_lt (by omega) (by omega) (by omega)), pk_sub (by omega), eq_mo_move_17, so_typeFor (by omega)]
  simp only [Option.bind_some, nz_0, nz_1, nz_2, nz_3, nz_4, nz_5, nz_6, nz_7, nz_8, nz_9, nz_10, nz_11, nz_12, nz_13, nz_14, nz_15, nz_16, nz_17, nz_18, nz_19, nz_20, nz_21, nz_22, nz_23, nz_24, nz_25, nz_26, nz_27, nz_28, nz_29, nz_30, nz_31, nz_32, nz_33, nz_34, nz_35, nz_36, nz_37, nz_38, nz_39, nz_40, nz_41, nz_42, nz_43, nz_44, nz_45, nz_46, nz_47, nz_48, nz_49, nz_50, nz_51, nz_63, nz_64, nz_66, nz_127, nz_128, nz_246, nz_247, nz_248, nz_250, nz_251, nz_252, nz_254, nz_255, nz_256, nz_400, nz_2500]
  rw [if_pos (ni_lt (show o < 26 by omega) (by omega) (by omega)), nI_clamp (by omega)]
  simp only [if_neg (ni_in ha (show a < 2 ^ 31 by omega))]
  rw [hM, so_ref hwt]
  simp only [Option.bind_some, bI_0]
  rcases sp_tk_c (o - 21) with e | e
  · rw [if_pos (show vt (o - 21) < nI 0 by rw [vt_7 e]; decide)]
    unfold sp_ok
    rw [if_pos (c := sp_tk (o - 21) = 7) e]
    rcases Bool.eq_false_or_eq_true (sp_rf (F.1.getD a 0)) with hr | hr
    · rw [if_neg (show ¬ sp_rf (F.1.getD a 0) = false by rw [hr]; decide), if_pos hr]
      exact hfin
    · rw [if_pos hr, if_neg (show ¬ sp_rf (F.1.getD a 0) = true by rw [hr]; decide)]
      exact hno
  · rw [if_neg (show ¬ vt (o - 21) < nI 0 by rw [vt_n (by omega)]; exact ni_nl (by omega) (by omega) (by omega))]
    unfold sp_ok
    rw [if_neg (c := sp_tk (o - 21) = 7) (by omega)]
    by_cases e2 : F.1.getD a 0 = sp_tk (o - 21)
    · rw [if_pos (show nI (F.1.getD a 0) = vt (o - 21) by rw [vt_n (by omega), e2]), if_pos (beq_iff_eq.mpr e2)]
      exact hfin
    · rw [if_neg (show ¬ nI (F.1.getD a 0) = vt (o - 21) by rw [vt_n (by omega)]; exact ni_ne e2 (by omega) (by omega)), if_neg (fun q => e2 (beq_iff_eq.mp q))]
      exact hno
/-- a STORE's LOCALS -/
theorem sm_stored {M : zm_M} {a x : Nat} {L T : List Nat} {b : Bool} {v1 v3 : Int32} (h : rm_F M (L, x :: T, b)) (hw : wf_F (L, x :: T, b)) (ha : a < 10) (h9 : sp_wd x = 2 → a < 9) : sm_R M (rr_mo_move (0 + 1) 105 [some (.inr (35, 0)), some (.inl v1), some (.inl (nI a)), some (.inl v3), some (.inl (nI x))] [] M) (some (sp_sto L a x, T, b)) := by
  have hx := hw.2 x List.mem_cons_self
  have hxl := sp_wt_lt hx
  have hL : L.length = 10 := h.1.1
  have h0 : sp_wt 0 := wt_k (by decide)
  -- one LOCAL is set
  have set1 : ∀ {Q : zm_M} {K : List Nat} {j t : Nat}, rm_F Q (K, T, b) → j < 10 → rm_F (zm_up Q 47 0 j (nI t)) (K.set j t, T, b) := by
    intro Q K j t hQ hj
    have hK : K.length = 10 := hQ.1.1
    refine ⟨⟨?_, ?_, ?_, ?_, ?_⟩, hQ.2⟩
    · rw [List.length_set]; exact hK
    · intro i hi
      show zm_up Q 47 0 j (nI t) 47 0 i = nI ((K.set j t).getD i 0)
      rw [gd_set (by omega)]
      by_cases e : i = j
      · rw [if_pos e, e, zu_e]
      · rw [if_neg e, zu_k e]
        exact hQ.1.2.1 i hi
    · rw [zu_s (by decide)]; exact hQ.1.2.2.1
    · rw [zu_s (by decide)]; exact hQ.1.2.2.2.1
    · rw [zu_s (by decide)]; exact hQ.1.2.2.2.2
  -- what stands at 142
  have fin : ∀ (Q : zm_M) (K : List Nat), zo_M M Q → rm_F Q (K, T, b) → (∀ t ∈ K, sp_wt t) → sp_sto L a x = (if sp_wd x = 2 then (K.set a x).set (a + 1) 0 else K.set a x) → sm_R M (rr_mo_move (0 + 1) 142 [some (.inr (35, 0)), some (.inl v1), some (.inl (nI a)), some (.inl v3), some (.inl (nI x))] [] Q) (some (sp_sto L a x, T, b)) := by
    intro Q K hz hQ wK he
    have s1 := set1 (t := x) hQ ha
    have w1 : ∀ t ∈ K.set a x, sp_wt t := wt_set wK hx
    rw [eq_mo_move_142, nI_clamp (by omega)]
    simp only [nz_0, nz_1, nz_2, nz_3, nz_4, nz_5, nz_6, nz_7, nz_8, nz_9, nz_10, nz_11, nz_12, nz_13, nz_14, nz_15, nz_16, nz_17, nz_18, nz_19, nz_20, nz_21, nz_22, nz_23, nz_24, nz_25, nz_26, nz_27, nz_28, nz_29, nz_30, nz_31, nz_32, nz_33, nz_34, nz_35, nz_36, nz_37, nz_38, nz_39, nz_40, nz_41, nz_42, nz_43, nz_44, nz_45, nz_46, nz_47, nz_48, nz_49, nz_50, nz_51, nz_63, nz_64, nz_66, nz_127, nz_128, nz_246, nz_247, nz_248, nz_250, nz_251, nz_252, nz_254, nz_255, nz_256, nz_400, nz_2500, nI_add]
    rw [if_neg (ni_in ha (by omega)), so_wide (by omega)]
    simp only [Option.bind_some, bI_0]
    by_cases e : sp_wd x = 2
    · have ha9 := h9 e
      rw [if_neg (by rw [e]; decide), nI_clamp (by omega), if_neg (ni_in (show a + 1 < 10 by omega) (by omega)), eq_mo_move_167, he, if_pos e, nz_1]
      exact sm_R.yes ((hz.tr zo_M.l).tr zo_M.l) (set1 s1 (by omega)) ⟨wt_set w1 h0, (wf_tail hw).2⟩
    · rw [if_pos (beq_eq_false_iff_ne.mpr e), eq_mo_move_167, he, if_neg e, nz_1]
      exact sm_R.yes (hz.tr zo_M.l) s1 ⟨w1, (wf_tail hw).2⟩
  have hdr := rm_drop h
  rw [eq_mo_move_105]
  simp only [nz_0, nz_1, nz_2, nz_3, nz_4, nz_5, nz_6, nz_7, nz_8, nz_9, nz_10, nz_11, nz_12, nz_13, nz_14, nz_15, nz_16, nz_17, nz_18, nz_19, nz_20, nz_21, nz_22, nz_23, nz_24, nz_25, nz_26, nz_27, nz_28, nz_29, nz_30, nz_31, nz_32, nz_33, nz_34, nz_35, nz_36, nz_37, nz_38, nz_39, nz_40, nz_41, nz_42, nz_43, nz_44, nz_45, nz_46, nz_47, nz_48, nz_49, nz_50, nz_51, nz_63, nz_64, nz_66, nz_127, nz_128, nz_246, nz_247, nz_248, nz_250, nz_251, nz_252, nz_254, nz_255, nz_256, nz_400, nz_2500]
  by_cases e0 : a = 0
  · rw [if_neg (ni_nl (by omega) (by omega) (by omega))]
    refine fin _ L zo_M.d hdr hw.1 ?_
    unfold sp_sto
    dsimp only
    rw [if_neg (show ¬ (0 < a ∧ sp_wd (L.getD (a - 1) 0) = 2) by omega)]
  · have hM : M 47 0 (a - 1) = nI (L.getD (a - 1) 0) := h.1.2.1 (a - 1) (by omega)
    have hwl : L.getD (a - 1) 0 < 2097152 := sp_wt_lt (wt_gd hw.1 (a - 1))
    rw [if_pos (ni_lt (by omega) (by omega) (by omega)), pk_sub (by omega), nI_clamp (by omega)]
    simp only [if_neg (ni_in (show a - 1 < 10 by omega) (show a - 1 < 2 ^ 31 by omega))]
    rw [hM, so_wide (by omega)]
    simp only [Option.bind_some, bI_0]
    by_cases e : sp_wd (L.getD (a - 1) 0) = 2
    · rw [if_neg (by rw [e]; decide)]
      refine fin _ (L.set (a - 1) 0) (zo_M.d.tr zo_M.l) (set1 hdr (by omega)) (wt_set hw.1 h0) ?_
      unfold sp_sto
      dsimp only
      rw [if_pos (show 0 < a ∧ sp_wd (L.getD (a - 1) 0) = 2 from ⟨by omega, e⟩)]
    · rw [if_pos (beq_eq_false_iff_ne.mpr e)]
      refine fin _ L zo_M.d hdr hw.1 ?_
      unfold sp_sto
      dsimp only
      rw [if_neg (show ¬ (0 < a ∧ sp_wd (L.getD (a - 1) 0) = 2) from fun q => e q.2)]
theorem sm_store {M : zm_M} {o a : Nat} {F : sp_F} (h : rm_F M F) (hw : wf_F F) (h1 : 26 ≤ o) (h2 : o ≤ 30) (ha : a < 10) (ha9 : o = 27 ∨ o = 29 → a < 9) : sm_R M (fn_mo_move [.inr (35, 0), .inl (nI o), .inl (nI a)] M) (match F.2.1 with
    | x :: T => if sp_ok x (o - 26) then some (sp_sto F.1 a x, T, F.2.2) else none
    | _ => none) := by
  obtain ⟨L, T, b⟩ := F
  have t1 : fn_mo_top [.inr (35, 0), .inl (nI 1)] M = some (vz T[0]?, M) := sm_top h (a := 0) (by decide)
  rw [eq_mo_move, show (1 : Nat) = 0 + 1 from rfl, eq_mo_move_0]
  simp only [nz_0, nz_1, nz_2, nz_3, nz_4, nz_5, nz_6, nz_7, nz_8, nz_9, nz_10, nz_11, nz_12, nz_13, nz_14, nz_15, nz_16, nz_17, nz_18, nz_19, nz_20, nz_21, nz_22, nz_23, nz_24, nz_25, nz_26, nz_27, nz_28, nz_29, nz_30, nz_31, nz_32, nz_33, nz_34, nz_35, nz_36, nz_37, nz_38, nz_39, nz_40, nz_41, nz_42, nz_43, nz_44, nz_45, nz_46, nz_47, nz_48, nz_49, nz_50, nz_51, nz_63, nz_64, nz_66, nz_127, nz_128, nz_246, nz_247, nz_248, nz_250, nz_251, nz_252, nz_254, nz_255, nz_256, nz_400, nz_2500]
  rw [if_neg (ni_nl (by omega) (by omega) (by omega)), pk_sub (by omega), eq_mo_move_17, so_typeFor (by omega)]
  simp only [Option.bind_some, nz_0, nz_1, nz_2, nz_3, nz_4, nz_5, nz_6, nz_7, nz_8, nz_9, nz_10, nz_11, nz_12, nz_13, nz_14, nz_15, nz_16, nz_17, nz_18, nz_19, nz_20, nz_21, nz_22, nz_23, nz_24, nz_25, nz_26, nz_27, nz_28, nz_29, nz_30, nz_31, nz_32, nz_33, nz_34, nz_35, nz_36, nz_37, nz_38, nz_39, nz_40, nz_41, nz_42, nz_43, nz_44, nz_45, nz_46, nz_47, nz_48, nz_49, nz_50, nz_51, nz_63, nz_64, nz_66, nz_127, nz_128, nz_246, nz_247, nz_248, nz_250, nz_251, nz_252, nz_254, nz_255, nz_256, nz_400, nz_2500]
  rw [if_neg (ni_nl (show 26 ≤ o by omega) (by omega) (by omega)), t1]
  simp only [Option.bind_some]
  rw [so_ref_v hw.2]
  simp only [Option.bind_some, bI_0, eq_mo_move_103, nz_0, nz_1, nz_2, nz_3, nz_4, nz_5, nz_6, nz_7, nz_8, nz_9, nz_10, nz_11, nz_12, nz_13, nz_14, nz_15, nz_16, nz_17, nz_18, nz_19, nz_20, nz_21, nz_22, nz_23, nz_24, nz_25, nz_26, nz_27, nz_28, nz_29, nz_30, nz_31, nz_32, nz_33, nz_34, nz_35, nz_36, nz_37, nz_38, nz_39, nz_40, nz_41, nz_42, nz_43, nz_44, nz_45, nz_46, nz_47, nz_48, nz_49, nz_50, nz_51, nz_63, nz_64, nz_66, nz_127, nz_128, nz_246, nz_247, nz_248, nz_250, nz_251, nz_252, nz_254, nz_255, nz_256, nz_400, nz_2500]
  cases T with
  | nil =>
    dsimp only
    by_cases e : vt (o - 26) < nI 0
    · rw [if_pos e, if_pos (show Option.any sp_rf ([] : List Nat)[0]? = false from rfl)]
      exact sm_R.no zo_M.rf
    · rw [if_neg e]
      rcases sp_tk_c (o - 26) with q | q
      · exact absurd (show vt (o - 26) < nI 0 by rw [vt_7 q]; decide) e
      · rw [if_neg (show ¬ vz ([] : List Nat)[0]? = vt (o - 26) by rw [vt_n (by omega)]; exact vz_ne (by omega))]
        exact sm_R.no zo_M.rf
  | cons x T =>
    have hxl := sp_wt_lt (hw.2 x List.mem_cons_self)
    have hst : sp_ok x (o - 26) = true → sm_R M (rr_mo_move (0 + 1) 105 [some (.inr (35, 0)), some (.inl (nI o)), some (.inl (nI a)), some (.inl (vt (o - 26))), some (.inl (nI x))] [] M) (some (sp_sto L a x, T, b)) := by
      intro hk
      refine sm_stored h hw ha ?_
      intro hwd
      apply ha9
      have hx34 : x = 3 ∨ x = 4 := by
        unfold sp_wd at hwd
        split at hwd
        · assumption
        · omega
      rcases (show o = 26 ∨ o = 27 ∨ o = 28 ∨ o = 29 ∨ o = 30 by omega) with rfl | rfl | rfl | rfl | rfl
      · rcases hx34 with rfl | rfl <;> exact absurd hk (by decide)
      · exact Or.inl rfl
      · rcases hx34 with rfl | rfl <;> exact absurd hk (by decide)
      · exact Or.inr rfl
      · rcases hx34 with rfl | rfl <;> exact absurd hk (by decide)
    show sm_R M (if vt (o - 26) < nI 0 then (if sp_rf x = false then some (nI 0, M) else rr_mo_move (0 + 1) 105 [some (.inr (35, 0)), some (.inl (nI o)), some (.inl (nI a)), some (.inl (vt (o - 26))), some (.inl (nI x))] [] M) else (if nI x = vt (o - 26) then rr_mo_move (0 + 1) 105 [some (.inr (35, 0)), some (.inl (nI o)), some (.inl (nI a)), some (.inl (vt (o - 26))), some (.inl (nI x))] [] M else some (nI 0, M))) (if sp_ok x (o - 26) then some (sp_sto L a x, T, b) else none)
    rcases sp_tk_c (o - 26) with e | e
    · have hok : sp_ok x (o - 26) = sp_rf x := by unfold sp_ok; rw [if_pos e]
      rw [if_pos (show vt (o - 26) < nI 0 by rw [vt_7 e]; decide)]
      rcases Bool.eq_false_or_eq_true (sp_rf x) with hr | hr
      · rw [if_neg (show ¬ sp_rf x = false by rw [hr]; decide), if_pos (show sp_ok x (o - 26) = true by rw [hok, hr])]
        exact hst (by rw [hok, hr])
      · rw [if_pos hr, if_neg (show ¬ sp_ok x (o - 26) = true by rw [hok, hr]; decide)]
        exact sm_R.no zo_M.rf
    · have hok : sp_ok x (o - 26) = (x == sp_tk (o - 26)) := by unfold sp_ok; rw [if_neg (by omega)]
      rw [if_neg (show ¬ vt (o - 26) < nI 0 by rw [vt_n (by omega)]; exact ni_nl (by omega) (by omega) (by omega))]
      by_cases e2 : x = sp_tk (o - 26)
      · rw [if_pos (show nI x = vt (o - 26) by rw [vt_n (by omega), e2]), if_pos (show sp_ok x (o - 26) = true by rw [hok]; exact beq_iff_eq.mpr e2)]
        exact hst (by rw [hok]; exact beq_iff_eq.mpr e2)
      · rw [if_neg (show ¬ nI x = vt (o - 26) by rw [vt_n (by omega)]; exact ni_ne e2 (by omega) (by omega)), if_neg (show ¬ sp_ok x (o - 26) = true by rw [hok]; exact fun q => e2 (beq_iff_eq.mp q))]
        exact sm_R.no zo_M.rf
