/-! THE CHECK: the reference -/
theorem zo_M.R {M M' : zm_M} {R : List sp_W} (h : zo_M M M') (hR : rm_R M R) : rm_R M' R := hR.kept (fun s h1 h2 => funext fun i => funext fun k => h s i k (by omega) (by omega) (by omega)) (h 35 0 34 (by omega) (by omega) (by omega))
theorem so_rowAt {M : zm_M} {R : List sp_W} {off : Nat} (hR : rm_R M R) (ho : off < 2 ^ 31) (hb : ∀ q ∈ R, q.1 < 2 ^ 31) : fn_mo_rowAt [.inr (35, 0), .inl (nI off)] M = some (vz (R.findIdx? (fun q => q.1 == off)), M) := by
  obtain ⟨h50, h34, hw⟩ := hR
  have gm : ∀ i, i < R.length → R.getD i wz ∈ R := by
    intro i hi
    rw [List.getD_eq_getElem?_getD, List.getElem?_eq_getElem hi]
    exact List.getElem_mem hi
  have gg : ∀ i (hi : i < R.length), R.getD i wz = R[i] := by
    intro i hi
    rw [List.getD_eq_getElem?_getD, List.getElem?_eq_getElem hi]
    rfl
  have lp : ∀ (k i n : Nat), i + k = R.length → k < n → (∀ j, j < i → (R.getD j wz).1 ≠ off) → rr_mo_rowAt n 2 [some (.inr (35, 0)), some (.inl (nI off)), some (.inl (nI i))] [] M = some (vz (R.findIdx? (fun q => q.1 == off)), M) := by
    intro k
    induction k with
    | zero =>
      intro i n hk hn hj
      obtain ⟨n, rfl⟩ : ∃ q, n = q + 1 := ⟨n - 1, by omega⟩
      rw [eq_mo_rowAt_2, h34, if_neg (ni_nl (by omega) (by omega) (by omega)), nz_1]
      have : R.findIdx? (fun q => q.1 == off) = none := by
        rw [List.findIdx?_eq_none_iff]
        intro x hx
        obtain ⟨j, hj2, rfl⟩ := List.mem_iff_getElem.mp hx
        have := hj j (by omega)
        rw [gg j hj2] at this
        exact beq_eq_false_iff_ne.mpr this
      rw [this]
      rfl
    | succ k ih =>
      intro i n hk hn hj
      obtain ⟨n, rfl⟩ : ∃ q, n = q + 1 := ⟨n - 1, by omega⟩
      rw [eq_mo_rowAt_2, h34, if_pos (ni_lt (by omega) (by omega) (by omega)), nI_clamp (by omega)]
      simp only [nz_0, nz_1, nz_2, nz_3, nz_4, nz_5, nz_6, nz_7, nz_8, nz_9, nz_10, nz_11, nz_12, nz_13, nz_14, nz_15, nz_16, nz_17, nz_18, nz_19, nz_20, nz_21, nz_22, nz_23, nz_24, nz_25, nz_26, nz_27, nz_28, nz_29, nz_30, nz_31, nz_32, nz_33, nz_34, nz_35, nz_36, nz_37, nz_38, nz_39, nz_40, nz_41, nz_42, nz_43, nz_44, nz_45, nz_46, nz_47, nz_48, nz_49, nz_50, nz_51, nz_63, nz_64, nz_66, nz_127, nz_128, nz_246, nz_247, nz_248, nz_250, nz_251, nz_252, nz_254, nz_255, nz_256, nz_400, nz_2500, nI_add]
      rw [if_neg (ni_in (show i < 400 by omega) (by omega)), (hw i (by omega)).1]
      by_cases e : (R.getD i wz).1 = off
      · rw [if_pos (by rw [e])]
        have : R.findIdx? (fun q => q.1 == off) = some i := by
          rw [List.findIdx?_eq_some_iff_getElem]
          refine ⟨by omega, ?_, ?_⟩
          · rw [← gg i (by omega)]
            exact beq_iff_eq.mpr e
          · intro j hj2
            rw [← gg j (by omega)]
            exact Bool.not_eq_true _ ▸ beq_eq_false_iff_ne.mpr (hj j hj2)
        rw [this]
        rfl
      · rw [if_neg (ni_ne e (hb _ (gm i (by omega))) ho)]
        refine ih (i + 1) n (by omega) (by omega) ?_
        intro j hj2
        by_cases ej : j = i
        · rw [ej]
          exact e
        · exact hj j (by omega)
  rw [eq_mo_rowAt, show (1073741824 : Nat) = 1073741823 + 1 from rfl, eq_mo_rowAt_0, nz_0]
  exact lp R.length 0 _ (by omega) (by omega) (fun j hj => absurd hj (by omega))
/-- what is known of read rows -/
def ok_R (P : sp_P) (R : List sp_W) : Prop := ∀ q ∈ R, q.1 < 2 ^ 31 ∧ q.2.2.2.2 = sp_ht q.2.2.1
theorem rs_ok {P : sp_P} (hwP : wf_P P) : ∀ (k : Nat) (X : List Nat) (l : Nat) (D : List Nat) (R : List sp_W), sp_rs P k X l D = some R → ok_R P R := by
  intro k
  induction k with
  | zero =>
    intro X l D R h
    match D, h with
    | [], h =>
      cases h
      intro q hq
      cases hq
    | c :: D, h => cases h
  | succ k ih =>
    intro X l D R h
    match D, h with
    | [], h =>
      cases h
      intro q hq
      cases hq
    | c :: D, h =>
      have hrs : sp_rs P (k + 1) X l (c :: D) = (sp_ro c X D).bind fun q => if (sp_at P (l + q.2.2.1)).isSome then (sp_rs P k q.1 (l + q.2.2.1 + 1) q.2.2.2).map fun rs => (l + q.2.2.1, c, rw_F q.1 q.2.1) :: rs else none := rfl
      rw [hrs, Option.bind_eq_some_iff] at h
      obtain ⟨⟨X', T', d, D'⟩, h1, h2⟩ := h
      dsimp only at h2
      split at h2
      · next e =>
        rw [Option.map_eq_some_iff] at h2
        obtain ⟨rs, h3, h4⟩ := h2
        subst h4
        obtain ⟨p, hp⟩ := Option.isSome_iff_exists.mp e
        obtain ⟨q1, q2⟩ := sp_at_some hp
        have := sp_off_200 hwP q1
        intro q hq
        rcases List.mem_cons.mp hq with rfl | hq
        · exact ⟨by dsimp only; omega, rfl⟩
        · exact ih _ _ _ _ h3 q hq
      · cases h2
theorem so_rowAt2 {P : sp_P} {M : zm_M} {R : List sp_W} {p : Nat} (hwP : wf_P P) (hR : rm_R M R) (hp : p < pg_n P) (hb : ok_R P R) : fn_mo_rowAt [.inr (35, 0), .inl (nI (sp_off P p))] M = some (vz (sp_rx P R p), M) := by
  have := sp_off_200 hwP hp
  rw [so_rowAt hR (by omega) (fun q hq => (hb q hq).1)]
  unfold sp_rx
  rw [if_pos hp]
theorem ht_r {L : List Nat} (hl : L.length = 10) : sp_ht L = (List.range' 0 10).any fun i => L.getD i 0 == 6 := by
  unfold sp_ht
  rw [Bool.eq_iff_iff, List.any_eq_true, List.any_eq_true]
  constructor
  · rintro ⟨t, h1, h2⟩
    obtain ⟨j, hj, rfl⟩ := List.mem_iff_getElem.mp h1
    refine ⟨j, by rw [List.mem_range'_1]; omega, ?_⟩
    rw [List.getD_eq_getElem?_getD, List.getElem?_eq_getElem hj]
    exact h2
  · rintro ⟨j, h1, h2⟩
    rw [List.mem_range'_1] at h1
    exact ⟨_, gd_mem (by omega), h2⟩
theorem so_rowIsRaw {M : zm_M} {L : List Nat} {r : Nat} (hr : r < 50) (hl : L.length = 10) (hw : ∀ t ∈ L, sp_wt t) (h : ∀ j, j < 10 → M 57 0 (10 * r + j) = nI (L.getD j 0)) : fn_mo_rowIsRaw [.inr (35, 0), .inl (nI r)] M = some (bI (sp_ht L), M) := by
  have lp : ∀ (k i n : Nat), i + k = 10 → k < n → rr_mo_rowIsRaw n 2 [some (.inr (35, 0)), some (.inl (nI r)), some (.inl (nI i))] [] M = some (bI ((List.range' i k).any fun i => L.getD i 0 == 6), M) := by
    intro k
    induction k with
    | zero =>
      intro i n hk hn
      obtain ⟨n, rfl⟩ : ∃ q, n = q + 1 := ⟨n - 1, by omega⟩
      rw [eq_mo_rowIsRaw_2]
      simp only [nz_0, nz_1, nz_2, nz_3, nz_4, nz_5, nz_6, nz_7, nz_8, nz_9, nz_10, nz_11, nz_12, nz_13, nz_14, nz_15, nz_16, nz_17, nz_18, nz_19, nz_20, nz_21, nz_22, nz_23, nz_24, nz_25, nz_26, nz_27, nz_28, nz_29, nz_30, nz_31, nz_32, nz_33, nz_34, nz_35, nz_36, nz_37, nz_38, nz_39, nz_40, nz_41, nz_42, nz_43, nz_44, nz_45, nz_46, nz_47, nz_48, nz_49, nz_50, nz_51, nz_63, nz_64, nz_66, nz_127, nz_128, nz_246, nz_247, nz_248, nz_250, nz_251, nz_252, nz_254, nz_255, nz_256, nz_400, nz_2500]
      rw [if_neg (ni_nl (by omega) (by omega) (by omega))]
      rfl
    | succ k ih =>
      intro i n hk hn
      obtain ⟨n, rfl⟩ : ∃ q, n = q + 1 := ⟨n - 1, by omega⟩
      have hwl := sp_wt_lt (wt_gd hw i)
      rw [eq_mo_rowIsRaw_2]
      simp only [nz_0, nz_1, nz_2, nz_3, nz_4, nz_5, nz_6, nz_7, nz_8, nz_9, nz_10, nz_11, nz_12, nz_13, nz_14, nz_15, nz_16, nz_17, nz_18, nz_19, nz_20, nz_21, nz_22, nz_23, nz_24, nz_25, nz_26, nz_27, nz_28, nz_29, nz_30, nz_31, nz_32, nz_33, nz_34, nz_35, nz_36, nz_37, nz_38, nz_39, nz_40, nz_41, nz_42, nz_43, nz_44, nz_45, nz_46, nz_47, nz_48, nz_49, nz_50, nz_51, nz_63, nz_64, nz_66, nz_127, nz_128, nz_246, nz_247, nz_248, nz_250, nz_251, nz_252, nz_254, nz_255, nz_256, nz_400, nz_2500, nI_add, pk_mul]
      rw [if_pos (ni_lt (by omega) (by omega) (by omega)), nI_clamp (by omega), if_neg (ni_in (show 10 * r + i < 4000 by omega) (by omega)), h i (by omega), List.range'_succ, List.any_cons]
      by_cases e : L.getD i 0 = 6
      · rw [if_pos (by rw [e]), beq_iff_eq.mpr e]
        rfl
      · rw [if_neg (ni_ne e (by omega) (by omega)), beq_eq_false_iff_ne.mpr e, Bool.false_or]
        exact ih (i + 1) n (by omega) (by omega)
  rw [eq_mo_rowIsRaw, show (1073741824 : Nat) = 1073741823 + 1 from rfl, eq_mo_rowIsRaw_0, nz_0, ht_r hl]
  exact lp 10 0 _ (by omega) (by omega)
theorem so_fits {P : sp_P} {M : zm_M} {r : Nat} {F : sp_F} {q : sp_W} (hwP : wf_P P) (hP : rm_P P M) (hr : r < 50) (hF : rm_F M F) (hq : rm_w M r q) (hb : q.2.2.2.2 = sp_ht q.2.2.1) (wF : wf_F F) : fn_mo_fits [.inr (35, 0), .inl (nI r)] M = some (bI (sp_fits P F q.2.2), M) := by
  obtain ⟨-, -, ⟨w3, w4, w5, w6, -⟩, w8, wG⟩ := hq
  have hT := rm_len hF
  have hT2 : q.2.2.2.1.length ≤ 8 := Nat.le_trans (sp_sl_len _) w8
  have hs : sp_sup (pg_sup P) := hwP.1
  have l71 : F.2.1.length = q.2.2.2.1.length → ∀ (k i n : Nat) (o3 : Option zm_V), i + k = F.2.1.length → k < n → rr_mo_fits n 71 [some (.inr (35, 0)), some (.inl (nI r)), some (.inl (nI i)), o3] [] M = some (bI ((List.range' i k).all (fun i => sp_is P (F.2.1.getD (F.2.1.length - 1 - i) 0) (q.2.2.2.1.getD (F.2.1.length - 1 - i) 0))), M) := by
    intro hlen k
    induction k with
    | zero =>
      intro i n o3 hk hn
      obtain ⟨n, rfl⟩ : ∃ q, n = q + 1 := ⟨n - 1, by omega⟩
      rw [eq_mo_fits_71, hF.1.2.2.1, if_neg (ni_nl (by omega) (by omega) (by omega)), nz_1]
      rfl
    | succ k ih =>
      intro i n o3 hk hn
      obtain ⟨n, rfl⟩ : ∃ q, n = q + 1 := ⟨n - 1, by omega⟩
      rw [eq_mo_fits_71, hF.1.2.2.1, if_pos (ni_lt (by omega) (by omega) (by omega)), nI_clamp (by omega)]
      simp only [nz_0, nz_1, nz_2, nz_3, nz_4, nz_5, nz_6, nz_7, nz_8, nz_9, nz_10, nz_11, nz_12, nz_13, nz_14, nz_15, nz_16, nz_17, nz_18, nz_19, nz_20, nz_21, nz_22, nz_23, nz_24, nz_25, nz_26, nz_27, nz_28, nz_29, nz_30, nz_31, nz_32, nz_33, nz_34, nz_35, nz_36, nz_37, nz_38, nz_39, nz_40, nz_41, nz_42, nz_43, nz_44, nz_45, nz_46, nz_47, nz_48, nz_49, nz_50, nz_51, nz_63, nz_64, nz_66, nz_127, nz_128, nz_246, nz_247, nz_248, nz_250, nz_251, nz_252, nz_254, nz_255, nz_256, nz_400, nz_2500, nI_add, pk_mul]
      rw [nI_clamp (by omega), if_neg (ni_in (show i < 9 by omega) (by omega)), if_neg (ni_in (show 8 * r + i < 3200 by omega) (by omega))]
      have hg : M 58 0 (8 * r + i) = nI (q.2.2.2.1.getD (F.2.1.length - 1 - i) 0) := by
        have := w6 i (by omega)
        rw [← hlen] at this
        exact this
      rw [hF.1.2.2.2.1 i (by omega), hg, so_is hs hP.1 (wt_gd wF.2 _) (wt_gd wG.2 _)]
      simp only [Option.bind_some, bI_0]
      rw [List.range'_succ, List.all_cons]
      rcases Bool.eq_false_or_eq_true (sp_is P (F.2.1.getD (F.2.1.length - 1 - i) 0) (q.2.2.2.1.getD (F.2.1.length - 1 - i) 0)) with e | e
      · rw [if_neg (by rw [e]; decide), e, Bool.true_and]
        exact ih (i + 1) n _ (by omega) (by omega)
      · rw [if_pos e, e, Bool.false_and]
        rfl
  have l29 : F.2.1.length = q.2.2.2.1.length → ∀ (k i n : Nat) (o3 : Option zm_V), i + k = 10 → k + 10 < n → rr_mo_fits n 29 [some (.inr (35, 0)), some (.inl (nI r)), some (.inl (nI i)), o3] [] M = some (bI ((List.range' i k).all (fun i => sp_is P (F.1.getD i 0) (q.2.2.1.getD i 0)) && (List.range' 0 F.2.1.length).all (fun i => sp_is P (F.2.1.getD (F.2.1.length - 1 - i) 0) (q.2.2.2.1.getD (F.2.1.length - 1 - i) 0))), M) := by
    intro hlen k
    induction k with
    | zero =>
      intro i n o3 hk hn
      obtain ⟨n, rfl⟩ : ∃ q, n = q + 1 := ⟨n - 1, by omega⟩
      rw [eq_mo_fits_29]
      simp only [nz_0, nz_1, nz_2, nz_3, nz_4, nz_5, nz_6, nz_7, nz_8, nz_9, nz_10, nz_11, nz_12, nz_13, nz_14, nz_15, nz_16, nz_17, nz_18, nz_19, nz_20, nz_21, nz_22, nz_23, nz_24, nz_25, nz_26, nz_27, nz_28, nz_29, nz_30, nz_31, nz_32, nz_33, nz_34, nz_35, nz_36, nz_37, nz_38, nz_39, nz_40, nz_41, nz_42, nz_43, nz_44, nz_45, nz_46, nz_47, nz_48, nz_49, nz_50, nz_51, nz_63, nz_64, nz_66, nz_127, nz_128, nz_246, nz_247, nz_248, nz_250, nz_251, nz_252, nz_254, nz_255, nz_256, nz_400, nz_2500]
      rw [if_neg (ni_nl (by omega) (by omega) (by omega)), l71 hlen F.2.1.length 0 (n + 1) _ (by omega) (by omega)]
      rfl
    | succ k ih =>
      intro i n o3 hk hn
      obtain ⟨n, rfl⟩ : ∃ q, n = q + 1 := ⟨n - 1, by omega⟩
      rw [eq_mo_fits_29, nI_clamp (by omega)]
      simp only [nz_0, nz_1, nz_2, nz_3, nz_4, nz_5, nz_6, nz_7, nz_8, nz_9, nz_10, nz_11, nz_12, nz_13, nz_14, nz_15, nz_16, nz_17, nz_18, nz_19, nz_20, nz_21, nz_22, nz_23, nz_24, nz_25, nz_26, nz_27, nz_28, nz_29, nz_30, nz_31, nz_32, nz_33, nz_34, nz_35, nz_36, nz_37, nz_38, nz_39, nz_40, nz_41, nz_42, nz_43, nz_44, nz_45, nz_46, nz_47, nz_48, nz_49, nz_50, nz_51, nz_63, nz_64, nz_66, nz_127, nz_128, nz_246, nz_247, nz_248, nz_250, nz_251, nz_252, nz_254, nz_255, nz_256, nz_400, nz_2500, nI_add, pk_mul]
      rw [if_pos (ni_lt (by omega) (by omega) (by omega)), if_neg (ni_in (show i < 10 by omega) (by omega)), nI_clamp (by omega), if_neg (ni_in (show 10 * r + i < 4000 by omega) (by omega))]
      have hg : M 57 0 (10 * r + i) = nI (q.2.2.1.getD i 0) := w4 i (by omega)
      rw [hF.1.2.1 i (by omega), hg, so_is hs hP.1 (wt_gd wF.1 _) (wt_gd wG.1 _)]
      simp only [Option.bind_some, bI_0]
      rw [List.range'_succ, List.all_cons]
      rcases Bool.eq_false_or_eq_true (sp_is P (F.1.getD i 0) (q.2.2.1.getD i 0)) with e | e
      · rw [if_neg (by rw [e]; decide), e, Bool.true_and]
        exact ih (i + 1) n _ (by omega) (by omega)
      · rw [if_pos e, e, Bool.false_and, Bool.false_and]
        rfl
  rw [eq_mo_fits, show (1073741824 : Nat) = 1073741823 + 1 from rfl, eq_mo_fits_0, nI_clamp (by omega), hF.1.2.2.1, w5, hF.1.2.2.2.2]
  simp only [nz_0, nz_1, nz_2, nz_3, nz_4, nz_5, nz_6, nz_7, nz_8, nz_9, nz_10, nz_11, nz_12, nz_13, nz_14, nz_15, nz_16, nz_17, nz_18, nz_19, nz_20, nz_21, nz_22, nz_23, nz_24, nz_25, nz_26, nz_27, nz_28, nz_29, nz_30, nz_31, nz_32, nz_33, nz_34, nz_35, nz_36, nz_37, nz_38, nz_39, nz_40, nz_41, nz_42, nz_43, nz_44, nz_45, nz_46, nz_47, nz_48, nz_49, nz_50, nz_51, nz_63, nz_64, nz_66, nz_127, nz_128, nz_246, nz_247, nz_248, nz_250, nz_251, nz_252, nz_254, nz_255, nz_256, nz_400, nz_2500]
  rw [if_neg (ni_in (show r < 400 by omega) (by omega)), so_rowIsRaw hr w3 wG.1 w4]
  simp only [Option.bind_some]
  unfold sp_fits
  by_cases e2 : F.2.1.length = q.2.2.2.1.length
  · rw [if_pos (by rw [e2]), ← hb]
    by_cases e1 : F.2.2 = q.2.2.2.2
    · rw [if_pos (by rw [e1]), l29 e2 10 0 (1073741823 + 1) _ (by omega) (by omega), beq_iff_eq.mpr e1, beq_iff_eq.mpr e2, Bool.true_and, Bool.true_and]
    · rw [if_neg (by
        intro q'
        apply e1
        revert q'
        cases F.2.2 <;> cases q.2.2.2.2 <;> decide), beq_eq_false_iff_ne.mpr e1, Bool.false_and]
      rfl
  · rw [if_neg (ni_ne e2 (by omega) (by omega)), beq_eq_false_iff_ne.mpr e2, Bool.false_and, Bool.and_false]
    rfl
theorem rm_gd {P : sp_P} {R : List sp_W} (hb : ok_R P R) {r : Nat} (hr : r < R.length) : (R.getD r wz).2.2.2.2 = sp_ht (R.getD r wz).2.2.1 := by
  have : R.getD r wz ∈ R := by
    rw [List.getD_eq_getElem?_getD, List.getElem?_eq_getElem hr]
    exact List.getElem_mem hr
  exact (hb _ this).2
theorem so_fitsAt {P : sp_P} {M : zm_M} {p : Nat} {F : sp_F} {R : List sp_W} (hwP : wf_P P) (hP : rm_P P M) (hR : rm_R M R) (hb : ok_R P R) (hF : rm_F M F) (wF : wf_F F) (hp : p < 50) : fn_mo_fitsAt [.inr (35, 0), .inl (nI p)] M = some (bI (sp_fat P R p F), M) := by
  have h50 := hwP.n
  rw [eq_mo_fitsAt, hP.n]
  simp only [nz_0, nz_1, nz_2, nz_3, nz_4, nz_5, nz_6, nz_7, nz_8, nz_9, nz_10, nz_11, nz_12, nz_13, nz_14, nz_15, nz_16, nz_17, nz_18, nz_19, nz_20, nz_21, nz_22, nz_23, nz_24, nz_25, nz_26, nz_27, nz_28, nz_29, nz_30, nz_31, nz_32, nz_33, nz_34, nz_35, nz_36, nz_37, nz_38, nz_39, nz_40, nz_41, nz_42, nz_43, nz_44, nz_45, nz_46, nz_47, nz_48, nz_49, nz_50, nz_51, nz_63, nz_64, nz_66, nz_127, nz_128, nz_246, nz_247, nz_248, nz_250, nz_251, nz_252, nz_254, nz_255, nz_256, nz_400, nz_2500]
  unfold sp_fat
  by_cases e : p < pg_n P
  · rw [if_pos (ni_lt e (by omega) (by omega)), so_offset hwP hP (by omega), Option.bind_some, so_rowAt2 hwP hR e hb, Option.bind_some]
    cases hx : sp_rx P R p with
    | none =>
      dsimp only
      rw [if_pos (show vz none < nI 0 by decide)]
      rfl
    | some r =>
      obtain ⟨hr, -⟩ := rx_lt hx
      have hr50 := hR.1
      rw [show vz (some r) = nI r from rfl]
      dsimp only
      rw [if_neg (ni_nl (by omega) (by omega) (by omega)), so_fits hwP hP (by omega) hF (hR.2.2 r hr) (rm_gd hb hr) wF, Option.bind_some]
      simp only [bI_0]
      rcases Bool.eq_false_or_eq_true (sp_fits P F (R.getD r wz).2.2) with e | e
      · rw [if_neg (by rw [e]; decide), e]
        rfl
      · rw [if_pos e, e]
        rfl
  · rw [if_neg (ni_nl (by omega) (by omega) (by omega))]
    have : sp_rx P R p = none := by
      unfold sp_rx
      rw [if_neg e]
    rw [this]
    rfl
