/-! the reference's init, and a step of the reference -/
theorem ini_st {x y d : Nat} (hx : x < 2 ^ 31) (hd8 : d ≤ 8) {A : Nat → Nat} (hA : ∀ j, A j < 2 ^ 31) (v1 v3 : Int32) : ∀ (k i n : Nat) (Q : zm_M), i + k = d → k < n → Q 35 0 20 = nI d → (∀ j, j < d → Q 48 0 j = nI (if j < i then (if A j = x then y else A j) else A j)) → ∃ Q' n', rr_mo_init n 145 [some (.inr (35, 0)), some (.inl v1), some (.inl (nI x)), some (.inl v3), some (.inl (nI y)), some (.inl (nI i))] [] Q = rr_mo_init (n' + 1) 183 [some (.inr (35, 0)), some (.inl v1), some (.inl (nI x)), some (.inl v3), some (.inl (nI y)), some (.inl (nI 0))] [] Q' ∧ n ≤ n' + 1 + k ∧ zo_a 48 0 Q Q' ∧ ∀ j, j < d → Q' 48 0 j = nI (if A j = x then y else A j) := by
  intro k
  induction k with
  | zero =>
    intro i n Q hk hn hd hM
    obtain ⟨n, rfl⟩ : ∃ m, n = m + 1 := ⟨n - 1, by omega⟩
    rw [eq_mo_init_145, hd]
    simp only [nz_0, nz_1, nz_2, nz_3, nz_4, nz_5, nz_6, nz_7, nz_8, nz_9, nz_10, nz_11, nz_12, nz_13, nz_14, nz_15, nz_16, nz_17, nz_18, nz_19, nz_20, nz_21, nz_22, nz_23, nz_24, nz_25, nz_26, nz_27, nz_28, nz_29, nz_30, nz_31, nz_32, nz_33, nz_34, nz_35, nz_36, nz_37, nz_38, nz_39, nz_40, nz_41, nz_42, nz_43, nz_44, nz_45, nz_46, nz_47, nz_48, nz_49, nz_50, nz_51, nz_63, nz_64, nz_66, nz_127, nz_128, nz_246, nz_247, nz_248, nz_250, nz_251, nz_252, nz_254, nz_255, nz_256, nz_400, nz_2500]
    rw [if_neg (ni_nl (by omega) (by omega) (by omega))]
    refine ⟨Q, n, rfl, by omega, zo_a.rf, ?_⟩
    intro j hj
    rw [hM j hj, if_pos (show j < i by omega)]
  | succ k ih =>
    intro i n Q hk hn hd hM
    obtain ⟨n, rfl⟩ : ∃ m, n = m + 1 := ⟨n - 1, by omega⟩
    have hMi := hM i (by omega)
    rw [if_neg (show ¬ i < i by omega)] at hMi
    rw [eq_mo_init_145, hd]
    simp only [nz_0, nz_1, nz_2, nz_3, nz_4, nz_5, nz_6, nz_7, nz_8, nz_9, nz_10, nz_11, nz_12, nz_13, nz_14, nz_15, nz_16, nz_17, nz_18, nz_19, nz_20, nz_21, nz_22, nz_23, nz_24, nz_25, nz_26, nz_27, nz_28, nz_29, nz_30, nz_31, nz_32, nz_33, nz_34, nz_35, nz_36, nz_37, nz_38, nz_39, nz_40, nz_41, nz_42, nz_43, nz_44, nz_45, nz_46, nz_47, nz_48, nz_49, nz_50, nz_51, nz_63, nz_64, nz_66, nz_127, nz_128, nz_246, nz_247, nz_248, nz_250, nz_251, nz_252, nz_254, nz_255, nz_256, nz_400, nz_2500, eq_mo_init_174, nI_add]
    rw [if_pos (ni_lt (by omega) (by omega) (by omega)), nI_clamp (by omega)]
    simp only [if_neg (ni_in (show i < 9 by omega) (show i < 2 ^ 31 by omega))]
    rw [hMi]
    by_cases e : A i = x
    · rw [if_pos (by rw [e])]
      obtain ⟨Q', n', h1, h2, h3, h4⟩ := ih (i + 1) n (zm_up Q 48 0 i (nI y)) (by omega) (by omega) (by rw [zu_s (by decide)]; exact hd) (by
        intro j hj
        by_cases ej : j = i
        · subst ej
          rw [zu_e, if_pos (by omega), if_pos e]
        · rw [zu_k ej, hM j hj]
          by_cases e2 : j < i
          · rw [if_pos e2, if_pos (show j < i + 1 by omega)]
          · rw [if_neg e2, if_neg (show ¬ j < i + 1 by omega)])
      exact ⟨Q', n', h1, by omega, zo_a.up.tr h3, h4⟩
    · rw [if_neg (ni_ne e (hA i) hx)]
      obtain ⟨Q', n', h1, h2, h3, h4⟩ := ih (i + 1) n Q (by omega) (by omega) hd (by
        intro j hj
        by_cases ej : j = i
        · subst ej
          rw [hMi, if_pos (show j < j + 1 by omega), if_neg e]
        · rw [hM j hj]
          by_cases e2 : j < i
          · rw [if_pos e2, if_pos (show j < i + 1 by omega)]
          · rw [if_neg e2, if_neg (show ¬ j < i + 1 by omega)])
      exact ⟨Q', n', h1, by omega, h3, h4⟩
theorem ini_lo {x y : Nat} (hx : x < 2 ^ 31) {A : Nat → Nat} (hA : ∀ j, A j < 2 ^ 31) (v1 v3 : Int32) : ∀ (k i n : Nat) (Q : zm_M), i + k = 10 → k < n → (∀ j, j < 10 → Q 47 0 j = nI (if j < i then (if A j = x then y else A j) else A j)) → ∃ Q', rr_mo_init n 183 [some (.inr (35, 0)), some (.inl v1), some (.inl (nI x)), some (.inl v3), some (.inl (nI y)), some (.inl (nI i))] [] Q = some (nI 1, if v3 = nI 0 then Q' else zm_up Q' 35 0 21 (nI 0)) ∧ zo_a 47 0 Q Q' ∧ ∀ j, j < 10 → Q' 47 0 j = nI (if A j = x then y else A j) := by
  intro k
  induction k with
  | zero =>
    intro i n Q hk hn hM
    obtain ⟨n, rfl⟩ : ∃ m, n = m + 1 := ⟨n - 1, by omega⟩
    rw [eq_mo_init_183]
    simp only [nz_0, nz_1, nz_2, nz_3, nz_4, nz_5, nz_6, nz_7, nz_8, nz_9, nz_10, nz_11, nz_12, nz_13, nz_14, nz_15, nz_16, nz_17, nz_18, nz_19, nz_20, nz_21, nz_22, nz_23, nz_24, nz_25, nz_26, nz_27, nz_28, nz_29, nz_30, nz_31, nz_32, nz_33, nz_34, nz_35, nz_36, nz_37, nz_38, nz_39, nz_40, nz_41, nz_42, nz_43, nz_44, nz_45, nz_46, nz_47, nz_48, nz_49, nz_50, nz_51, nz_63, nz_64, nz_66, nz_127, nz_128, nz_246, nz_247, nz_248, nz_250, nz_251, nz_252, nz_254, nz_255, nz_256, nz_400, nz_2500, eq_mo_init_225]
    rw [if_neg (ni_nl (by omega) (by omega) (by omega))]
    refine ⟨Q, ?_, zo_a.rf, ?_⟩
    · by_cases e : v3 = nI 0
      · rw [if_pos e, if_pos e]
      · rw [if_neg e, if_neg e]
    · intro j hj
      rw [hM j hj, if_pos (show j < i by omega)]
  | succ k ih =>
    intro i n Q hk hn hM
    obtain ⟨n, rfl⟩ : ∃ m, n = m + 1 := ⟨n - 1, by omega⟩
    have hMi := hM i (by omega)
    rw [if_neg (show ¬ i < i by omega)] at hMi
    rw [eq_mo_init_183]
    simp only [nz_0, nz_1, nz_2, nz_3, nz_4, nz_5, nz_6, nz_7, nz_8, nz_9, nz_10, nz_11, nz_12, nz_13, nz_14, nz_15, nz_16, nz_17, nz_18, nz_19, nz_20, nz_21, nz_22, nz_23, nz_24, nz_25, nz_26, nz_27, nz_28, nz_29, nz_30, nz_31, nz_32, nz_33, nz_34, nz_35, nz_36, nz_37, nz_38, nz_39, nz_40, nz_41, nz_42, nz_43, nz_44, nz_45, nz_46, nz_47, nz_48, nz_49, nz_50, nz_51, nz_63, nz_64, nz_66, nz_127, nz_128, nz_246, nz_247, nz_248, nz_250, nz_251, nz_252, nz_254, nz_255, nz_256, nz_400, nz_2500, eq_mo_init_210, nI_add]
    rw [if_pos (ni_lt (by omega) (by omega) (by omega)), nI_clamp (by omega)]
    simp only [if_neg (ni_in (show i < 10 by omega) (show i < 2 ^ 31 by omega))]
    rw [hMi]
    by_cases e : A i = x
    · rw [if_pos (by rw [e])]
      obtain ⟨Q', h1, h3, h4⟩ := ih (i + 1) n (zm_up Q 47 0 i (nI y)) (by omega) (by omega) (by
        intro j hj
        by_cases ej : j = i
        · subst ej
          rw [zu_e, if_pos (by omega), if_pos e]
        · rw [zu_k ej, hM j hj]
          by_cases e2 : j < i
          · rw [if_pos e2, if_pos (show j < i + 1 by omega)]
          · rw [if_neg e2, if_neg (show ¬ j < i + 1 by omega)])
      exact ⟨Q', h1, zo_a.up.tr h3, h4⟩
    · rw [if_neg (ni_ne e (hA i) hx)]
      obtain ⟨Q', h1, h3, h4⟩ := ih (i + 1) n Q (by omega) (by omega) (by
        intro j hj
        by_cases ej : j = i
        · subst ej
          rw [hMi, if_pos (show j < j + 1 by omega), if_neg e]
        · rw [hM j hj]
          by_cases e2 : j < i
          · rw [if_pos e2, if_pos (show j < i + 1 by omega)]
          · rw [if_neg e2, if_neg (show ¬ j < i + 1 by omega)])
      exact ⟨Q', h1, h3, h4⟩
/-- from 145 on -/
theorem ini_fin {M Q : zm_M} {x c n : Nat} {L T : List Nat} {b : Bool} {v1 : Int32} (self : Bool) (hz : zo_M M Q) (h : rm_F Q (L, T, b)) (hwL : ∀ t ∈ L, sp_wt t) (hwT : ∀ t ∈ T, sp_wt t) (hx : sp_wt x) (hx1 : sp_wd x = 1) (hc : c < 8) (hn : 30 < n) : sm_R M (rr_mo_init n 145 [some (.inr (35, 0)), some (.inl v1), some (.inl (nI x)), some (.inl (bI self)), some (.inl (nI (16 * c + 7))), some (.inl (nI 0))] [] Q) (some (sp_rep x (16 * c + 7) L, sp_rep x (16 * c + 7) T, if self then false else b)) := by
  have hxl := sp_wt_lt hx
  have hl : T.length ≤ 8 := rm_len h
  have hL : L.length = 10 := h.1.1
  obtain ⟨Q1, n1, a1, a2, a3, a4⟩ := ini_st (x := x) (y := 16 * c + 7) (d := T.length) (by omega) hl (A := fun j => T.getD (T.length - 1 - j) 0) (fun j => by have := sp_wt_lt (wt_gd hwT (T.length - 1 - j)); omega) v1 (bI self) T.length 0 n Q (by omega) (by omega) h.1.2.2.1 (by
    intro j hj
    rw [if_neg (by omega)]
    exact h.1.2.2.2.1 j hj)
  obtain ⟨Q2, b1, b2, b3⟩ := ini_lo (x := x) (y := 16 * c + 7) (by omega) (A := fun j => L.getD j 0) (fun j => by have := sp_wt_lt (wt_gd hwL j); omega) v1 (bI self) 10 0 (n1 + 1) Q1 (by omega) (by omega) (by
    intro j hj
    rw [if_neg (by omega), a3.s (by decide)]
    exact h.1.2.1 j hj)
  rw [a1, b1]
  have hz2 : zo_M M Q2 := by
    refine hz.tr ?_
    intro s i k p q r
    rw [b2 s i k (by omega), a3 s i k (by omega)]
  have g47 : ∀ j, j < 10 → Q2 47 0 j = nI ((sp_rep x (16 * c + 7) L).getD j 0) := by
    intro j hj
    rw [b3 j hj]
    unfold sp_rep
    rw [gd_map (by omega)]
  have g48 : ∀ j, j < T.length → Q2 48 0 j = nI ((sp_rep x (16 * c + 7) T).getD (T.length - 1 - j) 0) := by
    intro j hj
    rw [b2.s (by decide), a4 j hj]
    unfold sp_rep
    rw [gd_map (by omega)]
  have gd : Q2 35 0 20 = nI T.length := by
    rw [b2.s (by decide), a3.s (by decide)]
    exact h.1.2.2.1
  have gr : Q2 35 0 21 = bI b := by
    rw [b2.s (by decide), a3.s (by decide)]
    exact h.1.2.2.2.2
  have hlr : (sp_rep x (16 * c + 7) T).length = T.length := List.length_map _
  have hlL : (sp_rep x (16 * c + 7) L).length = 10 := by rw [show (sp_rep x (16 * c + 7) L).length = L.length from List.length_map _]; exact hL
  have h8 : sp_sl (sp_rep x (16 * c + 7) T) ≤ 8 := by
    rw [sp_sl_rep (by rw [w_t7, hx1])]
    exact h.2
  have wf : wf_F (sp_rep x (16 * c + 7) L, sp_rep x (16 * c + 7) T, if self then false else b) := ⟨wt_rep hwL (wt_7 hc), wt_rep hwT (wt_7 hc)⟩
  cases self with
  | true =>
    rw [if_neg (by decide)]
    refine sm_R.yes (hz2.tr zo_M.r) ⟨⟨hlL, ?_, ?_, ?_, ?_⟩, h8⟩ wf
    · intro j hj
      rw [zu_s (by decide)]
      exact g47 j hj
    · rw [zu_k (by decide), gd]
      show nI T.length = nI (sp_rep x (16 * c + 7) T).length
      rw [hlr]
    · intro j hj
      rw [zu_s (by decide)]
      show Q2 48 0 j = nI ((sp_rep x (16 * c + 7) T).getD ((sp_rep x (16 * c + 7) T).length - 1 - j) 0)
      rw [hlr]
      exact g48 j (by rw [← hlr]; exact hj)
    · exact zu_e
  | false =>
    rw [if_pos (by decide)]
    refine sm_R.yes hz2 ⟨⟨hlL, g47, ?_, ?_, gr⟩, h8⟩ wf
    · rw [gd]
      show nI T.length = nI (sp_rep x (16 * c + 7) T).length
      rw [hlr]
    · intro j hj
      show Q2 48 0 j = nI ((sp_rep x (16 * c + 7) T).getD ((sp_rep x (16 * c + 7) T).length - 1 - j) 0)
      rw [hlr]
      exact g48 j (by rw [← hlr]; exact hj)
theorem sm_init {P : sp_P} {M : zm_M} {a : Nat} {F : sp_F} (hwP : wf_P P) (hP : rm_P P M) (h : rm_F M F) (hw : wf_F F) (ha : a < 8) : sm_R M (fn_mo_init [.inr (35, 0), .inl (nI a)] M) (sp_ini P a F) := by
  obtain ⟨L, T, b⟩ := F
  have h50 := hwP.n
  have hown : pg_own P < 8 := hwP.2.1
  have t1 : fn_mo_top [.inr (35, 0), .inl (nI 1)] M = some (vz T[0]?, M) := sm_top h (a := 0) (by decide)
  rw [eq_mo_init, show (1073741824 : Nat) = 1073741823 + 1 from rfl, eq_mo_init_0]
  simp only [nz_0, nz_1, nz_2, nz_3, nz_4, nz_5, nz_6, nz_7, nz_8, nz_9, nz_10, nz_11, nz_12, nz_13, nz_14, nz_15, nz_16, nz_17, nz_18, nz_19, nz_20, nz_21, nz_22, nz_23, nz_24, nz_25, nz_26, nz_27, nz_28, nz_29, nz_30, nz_31, nz_32, nz_33, nz_34, nz_35, nz_36, nz_37, nz_38, nz_39, nz_40, nz_41, nz_42, nz_43, nz_44, nz_45, nz_46, nz_47, nz_48, nz_49, nz_50, nz_51, nz_63, nz_64, nz_66, nz_127, nz_128, nz_246, nz_247, nz_248, nz_250, nz_251, nz_252, nz_254, nz_255, nz_256, nz_400, nz_2500]
  rw [t1]
  simp only [Option.bind_some]
  cases T with
  | nil =>
    rw [if_neg (show ¬ vz ([] : List Nat)[0]? = nI 6 from vz_ne (by omega)), eq_mo_init_17]
    simp only [nz_0, nz_1, nz_2, nz_3, nz_4, nz_5, nz_6, nz_7, nz_8, nz_9, nz_10, nz_11, nz_12, nz_13, nz_14, nz_15, nz_16, nz_17, nz_18, nz_19, nz_20, nz_21, nz_22, nz_23, nz_24, nz_25, nz_26, nz_27, nz_28, nz_29, nz_30, nz_31, nz_32, nz_33, nz_34, nz_35, nz_36, nz_37, nz_38, nz_39, nz_40, nz_41, nz_42, nz_43, nz_44, nz_45, nz_46, nz_47, nz_48, nz_49, nz_50, nz_51, nz_63, nz_64, nz_66, nz_127, nz_128, nz_246, nz_247, nz_248, nz_250, nz_251, nz_252, nz_254, nz_255, nz_256, nz_400, nz_2500]
    rw [if_pos trivial, if_pos (show vz ([] : List Nat)[0]? < nI 1 by decide), eq_mo_init_67]
    exact sm_R.no zo_M.rf
  | cons x T =>
    have hx := hw.2 x List.mem_cons_self
    have hxl := sp_wt_lt hx
    have hptx := sp_pt_le x
    have hk16 := sp_kd_lt x
    have hdr := rm_drop h
    show sm_R M (if nI x = nI 6 then rr_mo_init (1073741823 + 1) 17 [some (.inr (35, 0)), some (.inl (nI a)), some (.inl (nI x)), none, none, none] [.inl (nI 1)] M else rr_mo_init (1073741823 + 1) 17 [some (.inr (35, 0)), some (.inl (nI a)), some (.inl (nI x)), none, none, none] [.inl (nI 0)] M) (sp_ini P a (L, x :: T, b))
    unfold sp_ini
    dsimp only
    by_cases e6 : x = 6
    · subst e6
      rw [if_pos rfl, if_pos rfl, eq_mo_init_17]
      simp only [nz_0, nz_1, nz_2, nz_3, nz_4, nz_5, nz_6, nz_7, nz_8, nz_9, nz_10, nz_11, nz_12, nz_13, nz_14, nz_15, nz_16, nz_17, nz_18, nz_19, nz_20, nz_21, nz_22, nz_23, nz_24, nz_25, nz_26, nz_27, nz_28, nz_29, nz_30, nz_31, nz_32, nz_33, nz_34, nz_35, nz_36, nz_37, nz_38, nz_39, nz_40, nz_41, nz_42, nz_43, nz_44, nz_45, nz_46, nz_47, nz_48, nz_49, nz_50, nz_51, nz_63, nz_64, nz_66, nz_127, nz_128, nz_246, nz_247, nz_248, nz_250, nz_251, nz_252, nz_254, nz_255, nz_256, nz_400, nz_2500]
      rw [if_neg (by decide), hP.2.1]
      have fin : ∀ {X : Option sp_F}, X = some (sp_rep 6 (16 * pg_own P + 7) L, sp_rep 6 (16 * pg_own P + 7) T, false) → sm_R M (rr_mo_init (1073741823 + 1) 69 [some (.inr (35, 0)), some (.inl (nI a)), some (.inl (nI 6)), some (.inl (nI 1)), none, none] [] M) X := by
        rintro X rfl
        rw [eq_mo_init_69]
        simp only [nz_0, nz_1, nz_2, nz_3, nz_4, nz_5, nz_6, nz_7, nz_8, nz_9, nz_10, nz_11, nz_12, nz_13, nz_14, nz_15, nz_16, nz_17, nz_18, nz_19, nz_20, nz_21, nz_22, nz_23, nz_24, nz_25, nz_26, nz_27, nz_28, nz_29, nz_30, nz_31, nz_32, nz_33, nz_34, nz_35, nz_36, nz_37, nz_38, nz_39, nz_40, nz_41, nz_42, nz_43, nz_44, nz_45, nz_46, nz_47, nz_48, nz_49, nz_50, nz_51, nz_63, nz_64, nz_66, nz_127, nz_128, nz_246, nz_247, nz_248, nz_250, nz_251, nz_252, nz_254, nz_255, nz_256, nz_400, nz_2500]
        rw [if_neg (by decide), eq_mo_init_112]
        simp only [nz_0, nz_1, nz_2, nz_3, nz_4, nz_5, nz_6, nz_7, nz_8, nz_9, nz_10, nz_11, nz_12, nz_13, nz_14, nz_15, nz_16, nz_17, nz_18, nz_19, nz_20, nz_21, nz_22, nz_23, nz_24, nz_25, nz_26, nz_27, nz_28, nz_29, nz_30, nz_31, nz_32, nz_33, nz_34, nz_35, nz_36, nz_37, nz_38, nz_39, nz_40, nz_41, nz_42, nz_43, nz_44, nz_45, nz_46, nz_47, nz_48, nz_49, nz_50, nz_51, nz_63, nz_64, nz_66, nz_127, nz_128, nz_246, nz_247, nz_248, nz_250, nz_251, nz_252, nz_254, nz_255, nz_256, nz_400, nz_2500]
        rw [if_neg (by decide), eq_mo_init_126, hP.2.1]
        simp only [nz_0, nz_1, nz_2, nz_3, nz_4, nz_5, nz_6, nz_7, nz_8, nz_9, nz_10, nz_11, nz_12, nz_13, nz_14, nz_15, nz_16, nz_17, nz_18, nz_19, nz_20, nz_21, nz_22, nz_23, nz_24, nz_25, nz_26, nz_27, nz_28, nz_29, nz_30, nz_31, nz_32, nz_33, nz_34, nz_35, nz_36, nz_37, nz_38, nz_39, nz_40, nz_41, nz_42, nz_43, nz_44, nz_45, nz_46, nz_47, nz_48, nz_49, nz_50, nz_51, nz_63, nz_64, nz_66, nz_127, nz_128, nz_246, nz_247, nz_248, nz_250, nz_251, nz_252, nz_254, nz_255, nz_256, nz_400, nz_2500, pk_mul, nI_add]
        exact ini_fin true zo_M.d hdr hw.1 (wf_tail hw).2 hx (by decide) hown (by omega)
      have no : ∀ {X : Option sp_F}, X = none → sm_R M (rr_mo_init (1073741823 + 1) 67 [some (.inr (35, 0)), some (.inl (nI a)), some (.inl (nI 6)), some (.inl (nI 1)), none, none] [] M) X := by
        rintro X rfl
        rw [eq_mo_init_67]
        exact sm_R.no zo_M.rf
      by_cases ea : a = pg_own P
      · rw [if_pos (by rw [ea])]
        exact fin (if_pos (Or.inl ea))
      · rw [if_neg (ni_ne ea (by omega) (by omega))]
        by_cases e0 : pg_own P = 0
        · rw [if_pos (by rw [e0])]
          exact no (if_neg (by omega))
        · have hsup := hwP.1 (pg_own P) (by omega) hown
          rw [if_neg (ni_ne e0 (by omega) (by omega)), nI_clamp (by omega), if_neg (ni_in hown (by omega)), hP.1.1 _ hown]
          by_cases e1 : a = pg_sup P (pg_own P)
          · rw [if_pos (by rw [e1])]
            exact fin (if_pos (Or.inr ⟨e0, e1⟩))
          · rw [if_neg (ni_ne e1 (by omega) (by omega))]
            exact no (if_neg (by omega))
    · rw [if_neg (ni_ne e6 (by omega) (by omega)), if_neg e6, eq_mo_init_17]
      simp only [nz_0, nz_1, nz_2, nz_3, nz_4, nz_5, nz_6, nz_7, nz_8, nz_9, nz_10, nz_11, nz_12, nz_13, nz_14, nz_15, nz_16, nz_17, nz_18, nz_19, nz_20, nz_21, nz_22, nz_23, nz_24, nz_25, nz_26, nz_27, nz_28, nz_29, nz_30, nz_31, nz_32, nz_33, nz_34, nz_35, nz_36, nz_37, nz_38, nz_39, nz_40, nz_41, nz_42, nz_43, nz_44, nz_45, nz_46, nz_47, nz_48, nz_49, nz_50, nz_51, nz_63, nz_64, nz_66, nz_127, nz_128, nz_246, nz_247, nz_248, nz_250, nz_251, nz_252, nz_254, nz_255, nz_256, nz_400, nz_2500]
      rw [if_pos trivial]
      by_cases e0 : x = 0
      · rw [if_pos (ni_lt (by omega) (by omega) (by omega)), eq_mo_init_67, if_neg (by rw [e0]; decide)]
        exact sm_R.no zo_M.rf
      · rw [if_neg (ni_nl (by omega) (by omega) (by omega)), so_kind (by omega)]
        simp only [Option.bind_some]
        by_cases e8 : sp_kd x = 8
        · rw [if_pos (by rw [e8]), if_pos e8, eq_mo_init_69]
          simp only [nz_0, nz_1, nz_2, nz_3, nz_4, nz_5, nz_6, nz_7, nz_8, nz_9, nz_10, nz_11, nz_12, nz_13, nz_14, nz_15, nz_16, nz_17, nz_18, nz_19, nz_20, nz_21, nz_22, nz_23, nz_24, nz_25, nz_26, nz_27, nz_28, nz_29, nz_30, nz_31, nz_32, nz_33, nz_34, nz_35, nz_36, nz_37, nz_38, nz_39, nz_40, nz_41, nz_42, nz_43, nz_44, nz_45, nz_46, nz_47, nz_48, nz_49, nz_50, nz_51, nz_63, nz_64, nz_66, nz_127, nz_128, nz_246, nz_247, nz_248, nz_250, nz_251, nz_252, nz_254, nz_255, nz_256, nz_400, nz_2500]
          rw [if_pos trivial, pt_nI (by omega), so_placeAt hwP hP (by omega)]
          simp only [Option.bind_some]
          cases hat : sp_at P (sp_pt x) with
          | none =>
            rw [if_pos (show vz (none : Option Nat) < nI 0 by decide), eq_mo_init_110]
            exact sm_R.no zo_M.rf
          | some p =>
            have hp := (sp_at_some hat).1
            have hI := wf_at hwP hp
            have h40 : pg_op P p < 40 := hI.1
            have hvz : vz (some p) = nI p := by unfold vz; rfl
            rw [hvz, if_neg (ni_nl (by omega) (by omega) (by omega)), nI_clamp (by omega)]
            simp only [if_neg (ni_in (show p < 50 by omega) (show p < 2 ^ 31 by omega))]
            rw [(hP.i p hp).1, (hP.i p hp).2.1]
            by_cases e35 : pg_op P p = 35
            · have ha8 : pg_a P p < 8 := hI.2.2.2.1 (by unfold pg_op at e35; omega)
              rw [if_pos (by rw [e35])]
              by_cases e2 : pg_a P p = a
              · rw [if_pos (by rw [e2]), if_pos ⟨e35, e2⟩, eq_mo_init_112]
                simp only [nz_0, nz_1, nz_2, nz_3, nz_4, nz_5, nz_6, nz_7, nz_8, nz_9, nz_10, nz_11, nz_12, nz_13, nz_14, nz_15, nz_16, nz_17, nz_18, nz_19, nz_20, nz_21, nz_22, nz_23, nz_24, nz_25, nz_26, nz_27, nz_28, nz_29, nz_30, nz_31, nz_32, nz_33, nz_34, nz_35, nz_36, nz_37, nz_38, nz_39, nz_40, nz_41, nz_42, nz_43, nz_44, nz_45, nz_46, nz_47, nz_48, nz_49, nz_50, nz_51, nz_63, nz_64, nz_66, nz_127, nz_128, nz_246, nz_247, nz_248, nz_250, nz_251, nz_252, nz_254, nz_255, nz_256, nz_400, nz_2500]
                rw [if_pos trivial, eq_mo_init_126]
                simp only [nz_0, nz_1, nz_2, nz_3, nz_4, nz_5, nz_6, nz_7, nz_8, nz_9, nz_10, nz_11, nz_12, nz_13, nz_14, nz_15, nz_16, nz_17, nz_18, nz_19, nz_20, nz_21, nz_22, nz_23, nz_24, nz_25, nz_26, nz_27, nz_28, nz_29, nz_30, nz_31, nz_32, nz_33, nz_34, nz_35, nz_36, nz_37, nz_38, nz_39, nz_40, nz_41, nz_42, nz_43, nz_44, nz_45, nz_46, nz_47, nz_48, nz_49, nz_50, nz_51, nz_63, nz_64, nz_66, nz_127, nz_128, nz_246, nz_247, nz_248, nz_250, nz_251, nz_252, nz_254, nz_255, nz_256, nz_400, nz_2500, pk_mul, nI_add]
                exact ini_fin false zo_M.d hdr hw.1 (wf_tail hw).2 hx (by unfold sp_wd; unfold sp_kd at e8; rw [if_neg (by omega)]) ha (by omega)
              · rw [if_neg (ni_ne e2 (by omega) (by omega)), if_neg (fun q => e2 q.2), eq_mo_init_110]
                exact sm_R.no zo_M.rf
            · rw [if_neg (ni_ne e35 (by omega) (by omega)), if_neg (fun q => e35 q.1), eq_mo_init_110]
              exact sm_R.no zo_M.rf
        · rw [if_neg (ni_ne e8 (by omega) (by omega)), if_neg e8, eq_mo_init_67]
          exact sm_R.no zo_M.rf
