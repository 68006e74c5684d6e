/-! the class: gathering LOCALS, what two lists share -/
theorem rc_L.zo {M M' : zm_M} {f g : Nat} {X : List Nat} (h : rc_L M f X) (hz : zo_L g M M') (hf : f ≠ g) : rc_L M' f X := h.kept (funext fun k => hz 27 f k (by omega)) (funext fun k => hz 28 f k (by omega))
theorem sp_en_c {t : Nat} {L : List Nat} (h : sp_wd t ≠ 2) : sp_en (t :: L) = t :: sp_en L := by
  cases L with
  | nil => rfl
  | cons u L => rw [sp_en, if_neg h]
theorem sp_en_w {t u : Nat} {L : List Nat} (h : sp_wd t = 2) : sp_en (t :: u :: L) = t :: sp_en L := by rw [sp_en, if_pos h]
theorem sc_ga1 {f g : Nat} {L : List Nat} (hl : L.length = 10) (h9 : sp_wd (L.getD 9 0) = 1) (hw : ∀ t ∈ L, sp_wt t) : ∀ (k i n : Nat) (M : zm_M) (X : List Nat), i + k = 10 → k < n → rc_L M f X → sp_sl X = i → (∀ j, j < 10 → M 24 g j = nI (L.getD j 0)) → ∃ M' n', rr_tl_gather n 6 [some (.inr (27, f)), some (.inr (23, g)), some (.inl (nI i))] [] M = rr_tl_gather (n' + 1) 40 [some (.inr (27, f)), some (.inr (23, g)), some (.inl (nI 0))] [] M' ∧ n ≤ n' + 1 + k ∧ zo_L f M M' ∧ rc_L M' f (X ++ sp_en (L.drop i)) := by
  intro k
  induction k using Nat.strongRecOn with
  | ind k ih =>
    intro i n M X hk hn hX hs hM
    obtain ⟨n, rfl⟩ : ∃ m, n = m + 1 := ⟨n - 1, by omega⟩
    by_cases hi : i < 10
    · have ht := wt_gd hw i
      have htl := sp_wt_lt ht
      have hwd := sp_wd_le (L.getD i 0)
      have hfit : sp_sl X + sp_wd (L.getD i 0) ≤ 10 := by
        by_cases e : i = 9
        · rw [e, h9]
          omega
        · omega
      obtain ⟨M1, a1, a2, a3⟩ := sc_append hX ht
      rw [decide_eq_true hfit] at a1
      have hM1 : ∀ j, j < 10 → M1 24 g j = nI (L.getD j 0) := by
        intro j hj
        rw [a2.s (by decide) (by decide)]
        exact hM j hj
      rw [eq_tl_gather_6]
      simp only [nz_0, nz_1, nz_2, nz_3, nz_4, nz_5, nz_6, nz_7, nz_8, nz_9, nz_10, nz_11, nz_12, nz_13, nz_14, nz_15, nz_16, nz_17, nz_18, nz_19, nz_20, nz_21, nz_22, nz_23, nz_24, nz_25, nz_26, nz_27, nz_28, nz_29, nz_30, nz_31, nz_32, nz_33, nz_34, nz_35, nz_36, nz_37, nz_38, nz_39, nz_40, nz_41, nz_42, nz_43, nz_44, nz_45, nz_46, nz_47, nz_48, nz_49, nz_50, nz_51, nz_63, nz_64, nz_66, nz_127, nz_128, nz_246, nz_247, nz_248, nz_250, nz_251, nz_252, nz_254, nz_255, nz_256, nz_400, nz_2500]
      rw [if_pos (ni_lt hi (by omega) (by omega)), nI_clamp (by omega)]
      simp only [if_neg (ni_in hi (show i < 2 ^ 31 by omega))]
      rw [hM i hi, a1, Option.bind_some]
      dsimp only
      rw [hM1 i hi, sc_width (by omega), Option.bind_some, nI_add]
      obtain ⟨M2, n', b1, b2, b3, b4⟩ := ih (k - sp_wd (L.getD i 0)) (by omega) (i + sp_wd (L.getD i 0)) n M1 (X ++ [L.getD i 0]) (by omega) (by omega) (a3 hfit) (by rw [sl_app, hs]; rfl) hM1
      refine ⟨M2, n', b1, by omega, a2.tr b3, ?_⟩
      rw [dr_c (by omega)]
      by_cases e : sp_wd (L.getD i 0) = 2
      · rw [e] at b4
        have e9 : i + 1 < 10 := by omega
        rw [dr_c (show i + 1 < L.length by omega), sp_en_w e]
        rw [List.append_assoc] at b4
        exact b4
      · have e1 : sp_wd (L.getD i 0) = 1 := by omega
        rw [e1] at b4
        rw [sp_en_c e]
        rw [List.append_assoc] at b4
        exact b4
    · rw [eq_tl_gather_6]
      simp only [nz_0, nz_1, nz_2, nz_3, nz_4, nz_5, nz_6, nz_7, nz_8, nz_9, nz_10, nz_11, nz_12, nz_13, nz_14, nz_15, nz_16, nz_17, nz_18, nz_19, nz_20, nz_21, nz_22, nz_23, nz_24, nz_25, nz_26, nz_27, nz_28, nz_29, nz_30, nz_31, nz_32, nz_33, nz_34, nz_35, nz_36, nz_37, nz_38, nz_39, nz_40, nz_41, nz_42, nz_43, nz_44, nz_45, nz_46, nz_47, nz_48, nz_49, nz_50, nz_51, nz_63, nz_64, nz_66, nz_127, nz_128, nz_246, nz_247, nz_248, nz_250, nz_251, nz_252, nz_254, nz_255, nz_256, nz_400, nz_2500]
      rw [if_neg (ni_nl (by omega) (by omega) (by omega)), List.drop_eq_nil_of_le (by omega)]
      refine ⟨M, n, rfl, by omega, zo_L.rf, ?_⟩
      rw [show sp_en [] = [] from rfl, List.append_nil]
      exact hX
theorem sc_ga2 {f g : Nat} : ∀ (Y : List Nat) (j n : Nat) (M : zm_M), j + Y.length ≤ 10 → Y.length < n → rc_L M f Y.reverse → ∃ M', rr_tl_gather n 40 [some (.inr (27, f)), some (.inr (23, g)), some (.inl (nI j))] [] M = some M' ∧ zo_L f M M' ∧ rc_L M' f (Y.dropWhile fun t => t == 0).reverse := by
  intro Y
  induction Y with
  | nil =>
    intro j n M hj hn hX
    obtain ⟨n, rfl⟩ : ∃ m, n = m + 1 := ⟨n - 1, by omega⟩
    have h0 : M 27 f 1 = nI 0 := hX.1
    rw [eq_tl_gather_40, h0]
    simp only [nz_0, nz_1, nz_2, nz_3, nz_4, nz_5, nz_6, nz_7, nz_8, nz_9, nz_10, nz_11, nz_12, nz_13, nz_14, nz_15, nz_16, nz_17, nz_18, nz_19, nz_20, nz_21, nz_22, nz_23, nz_24, nz_25, nz_26, nz_27, nz_28, nz_29, nz_30, nz_31, nz_32, nz_33, nz_34, nz_35, nz_36, nz_37, nz_38, nz_39, nz_40, nz_41, nz_42, nz_43, nz_44, nz_45, nz_46, nz_47, nz_48, nz_49, nz_50, nz_51, nz_63, nz_64, nz_66, nz_127, nz_128, nz_246, nz_247, nz_248, nz_250, nz_251, nz_252, nz_254, nz_255, nz_256, nz_400, nz_2500]
    refine ⟨M, ?_, zo_L.rf, hX⟩
    rw [if_neg (show ¬ nI 0 < nI 0 by decide), ite_self]
  | cons y Y ih =>
    intro j n M hj hn hX
    obtain ⟨n, rfl⟩ : ∃ m, n = m + 1 := ⟨n - 1, by omega⟩
    simp only [List.length_cons] at hj hn
    have hr : (y :: Y).reverse = Y.reverse ++ [y] := List.reverse_cons
    have h1 : M 27 f 1 = nI (Y.length + 1) := by
      rw [hX.1]
      simp
    have hy := hX.2.2.2.2 y (by simp)
    have hyl := sp_wt_lt hy
    have hg : M 28 f Y.length = nI y := by
      rw [hX.2.2.2.1 Y.length (by simp), hr, gd_snoc, if_pos (by simp)]
    rw [eq_tl_gather_40, h1]
    simp only [nz_0, nz_1, nz_2, nz_3, nz_4, nz_5, nz_6, nz_7, nz_8, nz_9, nz_10, nz_11, nz_12, nz_13, nz_14, nz_15, nz_16, nz_17, nz_18, nz_19, nz_20, nz_21, nz_22, nz_23, nz_24, nz_25, nz_26, nz_27, nz_28, nz_29, nz_30, nz_31, nz_32, nz_33, nz_34, nz_35, nz_36, nz_37, nz_38, nz_39, nz_40, nz_41, nz_42, nz_43, nz_44, nz_45, nz_46, nz_47, nz_48, nz_49, nz_50, nz_51, nz_63, nz_64, nz_66, nz_127, nz_128, nz_246, nz_247, nz_248, nz_250, nz_251, nz_252, nz_254, nz_255, nz_256, nz_400, nz_2500, nI_add]
    rw [if_pos (ni_lt (by omega) (by omega) (by omega)), if_pos (ni_lt (by omega) (by omega) (by omega)), pk_sub (by omega), show Y.length + 1 - 1 = Y.length by omega, nI_clamp (by omega), if_neg (ni_in (show Y.length < 10 by omega) (by omega)), hg]
    by_cases e : y = 0
    · rw [if_pos (by rw [e])]
      obtain ⟨M1, a1, a2, a3⟩ := sc_tl_drop hX
      rw [hr, List.dropLast_concat] at a3
      rw [a1, Option.bind_some]
      obtain ⟨M2, b1, b2, b3⟩ := ih (j + 1) n M1 (by omega) (by omega) a3
      refine ⟨M2, b1, a2.tr b2, ?_⟩
      rw [List.dropWhile_cons, if_pos (by simp [e])]
      exact b3
    · rw [if_neg (ni_ne e (by omega) (by omega))]
      refine ⟨M, rfl, zo_L.rf, ?_⟩
      rw [List.dropWhile_cons, if_neg (by simp [e])]
      exact hX
theorem sc_gather {M : zm_M} {f g : Nat} {L : List Nat} (hl : L.length = 10) (h9 : sp_wd (L.getD 9 0) = 1) (hw : ∀ t ∈ L, sp_wt t) (hM : ∀ j, j < 10 → M 24 g j = nI (L.getD j 0)) : ∃ M', fn_tl_gather [.inr (27, f), .inr (23, g)] M = some M' ∧ zo_L f M M' ∧ rc_L M' f (sp_lst L) := by
  obtain ⟨M0, z1, z2, z3⟩ := sc_tl_empty (M := M) (f := f)
  rw [eq_tl_gather, show (1073741824 : Nat) = 1073741823 + 1 from rfl, eq_tl_gather_0, z1, Option.bind_some, nz_0]
  obtain ⟨M1, n1, a1, a2, a3, a4⟩ := sc_ga1 (f := f) (g := g) hl h9 hw 10 0 (1073741823 + 1) M0 [] (by omega) (by omega) z3 rfl (by
    intro j hj
    rw [z2.s (by decide) (by decide)]
    exact hM j hj)
  rw [List.nil_append, List.drop_zero] at a4
  have hlen := a4.len
  obtain ⟨M2, b1, b2, b3⟩ := sc_ga2 (f := f) (g := g) (sp_en L).reverse 0 (n1 + 1) M1 (by simpa using hlen) (by rw [List.length_reverse]; omega) (by rw [List.reverse_reverse]; exact a4)
  rw [a1, b1]
  exact ⟨M2, rfl, (z2.tr a3).tr b2, b3⟩
/-- how many they share, from the first on -/
theorem sp_cp_le : ∀ X Y : List Nat, sp_cp X Y ≤ min X.length Y.length
  | [], _ => by simp [sp_cp]
  | _ :: _, [] => by simp [sp_cp]
  | x :: X, y :: Y => by
    have := sp_cp_le X Y
    unfold sp_cp
    simp only [List.length_cons]
    split <;> omega
theorem sc_sh_lp {M : zm_M} {f g : Nat} {X Y : List Nat} (hX : rc_L M f X) (hY : rc_L M g Y) : ∀ (k i n : Nat), i + k = 10 → k < n → i ≤ X.length → rr_tl_sharedStart n 2 [some (.inr (27, f)), some (.inr (27, g)), some (.inl (nI i))] [] M = some (nI (i + sp_cp (X.drop i) (Y.drop i)), M) := by
  have hXl := hX.len
  have hYl := hY.len
  intro k
  induction k with
  | zero =>
    intro i n hk hn hi
    obtain ⟨n, rfl⟩ : ∃ m, n = m + 1 := ⟨n - 1, by omega⟩
    rw [eq_tl_sharedStart_2, hX.1, if_neg (ni_nl (by omega) (by omega) (by omega)), List.drop_eq_nil_of_le (by omega)]
    simp [sp_cp]
  | succ k ih =>
    intro i n hk hn hi
    obtain ⟨n, rfl⟩ : ∃ m, n = m + 1 := ⟨n - 1, by omega⟩
    rw [eq_tl_sharedStart_2, hX.1, hY.1]
    simp only [nz_0, nz_1, nz_2, nz_3, nz_4, nz_5, nz_6, nz_7, nz_8, nz_9, nz_10, nz_11, nz_12, nz_13, nz_14, nz_15, nz_16, nz_17, nz_18, nz_19, nz_20, nz_21, nz_22, nz_23, nz_24, nz_25, nz_26, nz_27, nz_28, nz_29, nz_30, nz_31, nz_32, nz_33, nz_34, nz_35, nz_36, nz_37, nz_38, nz_39, nz_40, nz_41, nz_42, nz_43, nz_44, nz_45, nz_46, nz_47, nz_48, nz_49, nz_50, nz_51, nz_63, nz_64, nz_66, nz_127, nz_128, nz_246, nz_247, nz_248, nz_250, nz_251, nz_252, nz_254, nz_255, nz_256, nz_400, nz_2500, nI_add]
    by_cases e1 : i < X.length
    · rw [if_pos (ni_lt e1 (by omega) (by omega))]
      by_cases e2 : i < Y.length
      · have hx := sp_wt_lt (wt_gd hX.2.2.2.2 i)
        have hy := sp_wt_lt (wt_gd hY.2.2.2.2 i)
        rw [if_pos (ni_lt e2 (by omega) (by omega)), nI_clamp (by omega)]
        simp only [if_neg (ni_in (show i < 10 by omega) (show i < 2 ^ 31 by omega))]
        rw [hX.2.2.2.1 i e1, hY.2.2.2.1 i e2, dr_c e1, dr_c e2, sp_cp]
        by_cases e3 : X.getD i 0 = Y.getD i 0
        · rw [if_pos (by rw [e3]), if_pos e3, ih (i + 1) n (by omega) (by omega) (by omega), show i + 1 + sp_cp (X.drop (i + 1)) (Y.drop (i + 1)) = i + (sp_cp (X.drop (i + 1)) (Y.drop (i + 1)) + 1) by omega]
        · rw [if_neg (ni_ne e3 (by omega) (by omega)), if_neg e3]
          rfl
      · rw [if_neg (ni_nl (by omega) (by omega) (by omega)), List.drop_eq_nil_of_le (as := Y) (by omega)]
        cases X.drop i <;> simp [sp_cp]
    · rw [if_neg (ni_nl (by omega) (by omega) (by omega)), List.drop_eq_nil_of_le (as := X) (by omega)]
      simp [sp_cp]
theorem sc_shared {M : zm_M} {f g : Nat} {X Y : List Nat} (hX : rc_L M f X) (hY : rc_L M g Y) : fn_tl_sharedStart [.inr (27, f), .inr (27, g)] M = some (nI (sp_cp X Y), M) := by
  rw [eq_tl_sharedStart, show (1073741824 : Nat) = 1073741823 + 1 from rfl, eq_tl_sharedStart_0, nz_0, sc_sh_lp hX hY 10 0 _ (by omega) (by omega) (by omega), Nat.zero_add, List.drop_zero, List.drop_zero]
theorem sc_tl_take {M : zm_M} {f g : Nat} {X : List Nat} (h : rc_L M g X) (hfg : f ≠ g) : ∃ M', fn_tl_takeOver [.inr (27, f), .inr (27, g)] M = some M' ∧ zo_L f M M' ∧ rc_L M' f X := by
  have hl := h.len
  have hac : zm_ac zt_Y [.inr (28, g), .inl (nI 0), .inr (28, f), .inl (nI 0), .inl (nI X.length)] M = some (zm_ua M 28 f (va_cpy (M 28 g) (M 28 f) 0 0 X.length)) := by
    show (if nI 0 < 0 ∨ nI 0 < 0 ∨ nI X.length < 0 ∨ 10 < (nI 0).toNatClampNeg + (nI X.length).toNatClampNeg ∨ 10 < (nI 0).toNatClampNeg + (nI X.length).toNatClampNeg then none else some (zm_ua M 28 f (va_cpy (M 28 g) (M 28 f) (nI 0).toNatClampNeg (nI 0).toNatClampNeg (nI X.length).toNatClampNeg))) = _
    rw [nI_clamp (by omega), nI_clamp (by omega), if_neg]
    rintro (q | q | q | q | q)
    · exact nI_pos (by omega) q
    · exact nI_pos (by omega) q
    · exact nI_pos (by omega) q
    · omega
    · omega
  rw [eq_tl_takeOver, h.1, nz_0, hac, Option.bind_some, ua_s (by decide), h.1, h.2.1]
  refine ⟨_, rfl, ?_, ?_, ?_, h.2.2.1, ?_, h.2.2.2.2⟩
  · refine zo_L.tr ?_ ((zo_L.up (by omega)).tr (zo_L.up (by omega)))
    intro s i k a
    by_cases e : s = 28
    · subst e
      rw [ua_i (by omega)]
    · rw [ua_s e]
  · rw [zu_k (by decide), zu_e]
  · rw [zu_e]
  · intro i hi
    rw [zu_s (by decide), zu_s (by decide), ua_e, pk_cpy_in (by omega) (by omega), show 0 + (i - 0) = i by omega]
    exact h.2.2.2.1 i hi
