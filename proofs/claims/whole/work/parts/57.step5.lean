/-! the class: the PLACE of an OFFSET, INIT, objects, a step -/
def vp : Option Nat → Int32
  | some p => nI p
  | none => -2
theorem ni_ne {a b : Nat} (h : a ≠ b) (ha : a < 2 ^ 31) (hb : b < 2 ^ 31) : ¬ nI a = nI b := fun q => h ((nI_eq ha hb).mp q)
theorem ni_lt {a b : Nat} (h : a < b) (ha : a < 2 ^ 31) (hb : b < 2 ^ 31) : nI a < nI b := (nI_ltI ha hb).mpr h
theorem ni_nl {a b : Nat} (h : b ≤ a) (ha : a < 2 ^ 31) (hb : b < 2 ^ 31) : ¬ nI a < nI b := fun q => absurd ((nI_ltI ha hb).mp q) (by omega)
theorem ni_in {a k : Nat} (h : a < k) (ha : a < 2 ^ 31) : ¬ (nI a < nI 0 ∨ k ≤ a) := by
  rintro (q | q)
  · exact ni_nl (Nat.zero_le a) ha (by omega) q
  · omega
theorem vp_s (p : Nat) : vp (some p) = nI p := by unfold vp; rfl
theorem vp_ne {p : Nat} (h : p < 2 ^ 31) : ¬ nI p = -2 := fun e => nI_pos h (by rw [e]; decide)
theorem rc_P.n {P : sp_P} {M : zm_M} (h : rc_P P M) : M 5 0 9 = nI (pg_n P) := h.2.2.2.2.2.2.1
theorem rc_P.i {P : sp_P} {M : zm_M} (h : rc_P P M) : ∀ p, p < pg_n P → M 7 0 p = nI (pg_op P p) ∧ M 8 0 p = nI (pg_a P p) ∧ M 9 0 p = nI (pg_b P p) := h.2.2.2.2.2.2.2.1
theorem rc_P.o {P : sp_P} {M : zm_M} (h : rc_P P M) : ∀ p, p ≤ pg_n P → M 10 0 p = nI (sp_off P p) := h.2.2.2.2.2.2.2.2.1
theorem wf_P.n {P : sp_P} (h : wf_P P) : pg_n P ≤ 50 := h.2.2.2.2.2.1
theorem sc_placeAt_lp {P : sp_P} {M : zm_M} (hwP : wf_P P) (hP : rc_P P M) {k : Nat} (hk : k < 2 ^ 31) : ∀ d i n, i + d = pg_n P → d < n → rr_pr_placeAt n 2 [some (.inr (5, 0)), some (.inl (nI k)), some (.inl (nI i))] [] M = some (vp ((List.range' i d).find? fun p => sp_off P p == k), M) := by
  have h50 := hwP.n
  intro d
  induction d with
  | zero =>
    intro i n hi hn
    obtain ⟨n, rfl⟩ : ∃ m, n = m + 1 := ⟨n - 1, by omega⟩
    rw [eq_pr_placeAt_2, hP.n, if_neg (by rw [nI_ltI (by omega) (by omega)]; omega)]
    rfl
  | succ d ih =>
    intro i n hi hn
    obtain ⟨n, rfl⟩ : ∃ m, n = m + 1 := ⟨n - 1, by omega⟩
    have ho := sp_off_le P i
    rw [eq_pr_placeAt_2, hP.n, if_pos (by rw [nI_ltI (by omega) (by omega)]; omega)]
    simp (disch := omega) only [nz_0, nz_1, nz_2, nz_3, nz_4, nz_5, nz_6, nz_7, nz_8, nz_9, nz_10, nz_11, nz_12, nz_13, nz_14, nz_15, nz_16, nz_17, nz_18, nz_19, nz_20, nz_21, nz_22, nz_23, nz_24, nz_25, nz_26, nz_27, nz_28, nz_29, nz_30, nz_31, nz_32, nz_33, nz_34, nz_35, nz_36, nz_37, nz_38, nz_39, nz_40, nz_41, nz_42, nz_43, nz_44, nz_45, nz_46, nz_47, nz_48, nz_49, nz_50, nz_51, nz_63, nz_64, nz_66, nz_127, nz_128, nz_246, nz_247, nz_248, nz_250, nz_251, nz_252, nz_254, nz_255, nz_256, nz_400, nz_2500, nI_eq, nI_ltI, nI_leI, nI_add, nI_clamp, pk_mul]
    rw [if_neg (by omega), hP.o i (by omega), List.range'_succ, List.find?_cons]
    simp (disch := omega) only [nI_eq, nI_ltI, nI_leI, nI_add, nI_clamp, pk_mul]
    by_cases e : sp_off P i = k
    · rw [if_pos e, show (sp_off P i == k) = true by simp [e]]
      rfl
    · rw [if_neg e, show (sp_off P i == k) = false by simp [e]]
      exact ih (i + 1) n (by omega) (by omega)
theorem sc_placeAt {P : sp_P} {M : zm_M} (hwP : wf_P P) (hP : rc_P P M) {k : Nat} (hk : k < 2 ^ 31) : fn_pr_placeAt [.inr (5, 0), .inl (nI k)] M = some (vp (sp_at P k), M) := by
  have h50 := hwP.n
  rw [eq_pr_placeAt, show (1073741824 : Nat) = 1073741823 + 1 from rfl, eq_pr_placeAt_0, nz_0, sc_placeAt_lp hwP hP hk (pg_n P) 0 _ (by omega) (by omega)]
  unfold sp_at
  rw [List.range_eq_range']
theorem rc_raw {M : zm_M} {f : Nat} {L T : List Nat} {b c : Bool} (h : rc_F M f (L, T, b)) : rc_F (zm_up M 23 f 4 (bI c)) f (L, T, c) ∧ zo_F f M (zm_up M 23 f 4 (bI c)) := by
  refine ⟨⟨⟨h.1.1, ?_, ?_, ?_, ?_⟩, ?_, h.2.2⟩, zo_F.up (by omega)⟩
  · simp (disch := omega) only [zu_s, zu_e, zu_k]
    exact h.1.2.1
  · simp (disch := omega) only [zu_s, zu_e, zu_k]
    exact h.1.2.2.1
  · simp (disch := omega) only [zu_s, zu_e, zu_k]
    exact h.1.2.2.2.1
  · simp (disch := omega) only [zu_s, zu_e, zu_k]
  · simp (disch := omega) only [zu_s, zu_e, zu_k]
    exact h.2.1
/-- drop it, and all that are the same become an OBJECT -/
theorem st_born {M : zm_M} {f x c : Nat} {L T : List Nat} {b : Bool} (h : rc_F M f (L, x :: T, b)) (hw : wf_F (L, x :: T, b)) (hx : sp_wd x = 1) (hc : c < 8) : ∃ M1 M2, fn_fr_drop [.inr (23, f)] M = some M1 ∧ zo_F f M M1 ∧ fn_fr_replaceAll [.inr (23, f), .inl (nI x), .inl (nI (16 * c + 7))] M1 = some M2 ∧ zo_F f M M2 ∧ rc_F M2 f (sp_rep x (16 * c + 7) L, sp_rep x (16 * c + 7) T, b) ∧ wf_F (sp_rep x (16 * c + 7) L, sp_rep x (16 * c + 7) T, b) := by
  have hxl := sp_wt_lt (hw.2 x List.mem_cons_self)
  obtain ⟨M1, q1, q2, q3⟩ := sc_drop h (by omega)
  obtain ⟨M2, r1, r2, r3⟩ := sc_rep q3 (wf_tail hw) (show x < 2 ^ 31 by omega) (show sp_wd x = sp_wd (16 * c + 7) by rw [w_t7, hx])
  exact ⟨M1, M2, q1, q2, r1, q2.tr r2, r3, wt_rep hw.1 (wt_7 hc), wt_rep (wf_tail hw).2 (wt_7 hc)⟩
/-- a RAW of an instruction NEW -/
theorem st_init8 {P : sp_P} {M : zm_M} {f a x : Nat} {L T : List Nat} {b : Bool} (hwP : wf_P P) (hP : rc_P P M) (h : rc_F M f (L, x :: T, b)) (hw : wf_F (L, x :: T, b)) (ha : a < 8) (hk : sp_kd x = 8) : st_R f M ((fn_mf_partOf [.inl (nI x)] M).bind fun q2 => (fn_pr_placeAt [.inr (5, 0), .inl q2.1] q2.2).bind fun q3 => if q3.1 = (-2 : Int32) then (some (nI 0, q3.2)) else if q3.1 < nI 0 ∨ 50 ≤ (q3.1).toNatClampNeg then none else if (q3.2 7 0 (q3.1).toNatClampNeg) = nI 35 then if q3.1 < nI 0 ∨ 50 ≤ (q3.1).toNatClampNeg then none else if (q3.2 8 0 (q3.1).toNatClampNeg) = nI a then (fn_fr_drop [.inr (23, f)] q3.2).bind fun q4 => (fn_mf_typeOf [.inl (nI 7), .inl (nI a)] q4).bind fun q5 => (fn_fr_replaceAll [.inr (23, f), .inl (nI x), .inl q5.1] q5.2).bind fun q6 => (some (nI 1, q6)) else (some (nI 0, q3.2)) else (some (nI 0, q3.2))) (match sp_at P (sp_pt x) with
      | some p => if pg_op P p = 35 ∧ pg_a P p = a then some (sp_rep x (16 * a + 7) L, sp_rep x (16 * a + 7) T, b) else none
      | none => none) := by
  have hxl := sp_wt_lt (hw.2 x List.mem_cons_self)
  have hptx := sp_pt_le x
  have h50 := hwP.n
  rw [sc_part (by omega)]
  simp only [Option.bind_some]
  rw [sc_placeAt hwP hP (by omega)]
  simp only [Option.bind_some]
  cases hat : sp_at P (sp_pt x) with
  | none => exact st_R.no zo_F.rf
  | some p =>
    have hp := (sp_at_some hat).1
    have hI := wf_at hwP hp
    have h40 : pg_op P p < 40 := hI.1
    simp only [vp_s]
    rw [if_neg (vp_ne (by omega)), nI_clamp (by omega), if_neg (ni_in (show p < 50 by omega) (by omega)), (hP.i p hp).1, (hP.i p hp).2.1, if_neg (ni_in (show p < 50 by omega) (by omega))]
    by_cases e : pg_op P p = 35
    · have ha8 : pg_a P p < 8 := hI.2.2.2.1 (by unfold pg_op at e; omega)
      rw [if_pos (by rw [e])]
      by_cases e2 : pg_a P p = a
      · rw [if_pos (by rw [e2]), if_pos ⟨e, e2⟩]
        obtain ⟨M1, M2, b1, b2, b3, b4, b5, b6⟩ := st_born h hw (by unfold sp_wd; unfold sp_kd at hk; rw [if_neg (by omega)]) ha
        rw [b1]
        simp only [Option.bind_some, sc_type, b3]
        exact st_R.yes b4 b5 b6
      · rw [if_neg (ni_ne e2 (by omega) (by omega)), if_neg (fun q => e2 q.2)]
        exact st_R.no zo_F.rf
    · rw [if_neg (ni_ne e (by omega) (by omega)), if_neg (fun q => e q.1)]
      exact st_R.no zo_F.rf
theorem st_init {P : sp_P} {M : zm_M} {f a x : Nat} {L T : List Nat} {b : Bool} (hwP : wf_P P) (hP : rc_P P M) (h : rc_F M f (L, x :: T, b)) (hw : wf_F (L, x :: T, b)) (ha : a < 8) : st_R f M (fn_ma_stepInit [.inr (17, 0), .inl (nI a), .inl (nI x), .inr (23, f)] M) (sp_ini P a (L, x :: T, b)) := by
  have hxl := sp_wt_lt (hw.2 x List.mem_cons_self)
  have hown : pg_own P < 8 := hwP.2.1
  have hsup := hwP.1
  have hk16 := sp_kd_lt x
  rw [eq_ma_stepInit]
  simp only [nz_0, nz_1, nz_2, nz_3, nz_4, nz_5, nz_6, nz_7, nz_8, nz_9, nz_10, nz_11, nz_12, nz_13, nz_14, nz_15, nz_16, nz_17, nz_18, nz_19, nz_20, nz_21, nz_22, nz_23, nz_24, nz_25, nz_26, nz_27, nz_28, nz_29, nz_30, nz_31, nz_32, nz_33, nz_34, nz_35, nz_36, nz_37, nz_38, nz_39, nz_40, nz_41, nz_42, nz_43, nz_44, nz_45, nz_46, nz_47, nz_48, nz_49, nz_50, nz_51, nz_63, nz_64, nz_66, nz_127, nz_128, nz_246, nz_247, nz_248, nz_250, nz_251, nz_252, nz_254, nz_255, nz_256, nz_400, nz_2500]
  unfold sp_ini
  dsimp only
  by_cases e6 : x = 6
  · subst e6
    rw [if_pos rfl, if_pos rfl, hP.2.1]
    have fin : ∀ {X : Option sp_F}, X = some (sp_rep 6 (16 * pg_own P + 7) L, sp_rep 6 (16 * pg_own P + 7) T, false) → st_R f M ((fn_fr_drop [.inr (23, f)] M).bind fun q7 => (fn_mf_typeOf [.inl (nI 7), .inl (q7 5 0 0)] q7).bind fun q8 => (fn_fr_replaceAll [.inr (23, f), .inl (nI 6), .inl q8.1] q8.2).bind fun q9 => (some (nI 1, zm_up q9 23 f 4 (nI 0)))) X := by
      rintro X rfl
      obtain ⟨M1, M2, b1, b2, b3, b4, b5, b6⟩ := st_born h hw (by decide) hown
      have hP1 := hP.zo b2
      rw [b1]
      simp only [Option.bind_some, hP1.2.1, sc_type, b3]
      have := rc_raw (c := false) b5
      exact st_R.yes (b4.tr this.2) this.1 b6
    by_cases ea : a = pg_own P
    · rw [if_pos (by rw [ea])]
      exact fin (if_pos (Or.inl ea))
    · rw [if_neg (ni_ne ea (by omega) (by omega)), eq_fa_isAbove]
      simp only [nz_0, nz_1, nz_2, nz_3, nz_4, nz_5, nz_6, nz_7, nz_8, nz_9, nz_10, nz_11, nz_12, nz_13, nz_14, nz_15, nz_16, nz_17, nz_18, nz_19, nz_20, nz_21, nz_22, nz_23, nz_24, nz_25, nz_26, nz_27, nz_28, nz_29, nz_30, nz_31, nz_32, nz_33, nz_34, nz_35, nz_36, nz_37, nz_38, nz_39, nz_40, nz_41, nz_42, nz_43, nz_44, nz_45, nz_46, nz_47, nz_48, nz_49, nz_50, nz_51, nz_63, nz_64, nz_66, nz_127, nz_128, nz_246, nz_247, nz_248, nz_250, nz_251, nz_252, nz_254, nz_255, nz_256, nz_400, nz_2500]
      by_cases e0 : pg_own P = 0
      · rw [if_neg (ni_nl (by omega) (by omega) (by omega)), if_neg (by omega)]
        simp only [Option.bind_some, if_true]
        rw [sc_kind (by omega)]
        exact st_R.no zo_F.rf
      · have := hsup (pg_own P) (by omega) hown
        rw [if_pos (ni_lt (by omega) (by omega) (by omega)), nI_clamp (by omega), if_neg (ni_in hown (by omega)), hP.1.1 _ hown]
        by_cases e1 : pg_sup P (pg_own P) = a
        · rw [if_pos (by rw [e1])]
          simp only [Option.bind_some]
          rw [if_neg (by decide)]
          exact fin (if_pos (Or.inr ⟨e0, e1.symm⟩))
        · rw [if_neg (ni_ne e1 (by omega) (by omega)), if_neg (by omega)]
          simp only [Option.bind_some, if_true]
          rw [sc_kind (by omega)]
          exact st_R.no zo_F.rf
  · rw [if_neg (ni_ne e6 (by omega) (by omega)), if_neg e6, sc_kind (by omega)]
    simp only [Option.bind_some]
    by_cases e8 : sp_kd x = 8
    · rw [if_pos (by rw [e8]), if_pos e8]
      exact st_init8 hwP hP h hw ha e8
    · rw [if_neg (ni_ne e8 (by omega) (by omega)), if_neg e8]
      exact st_R.no zo_F.rf
theorem st_init_m1 {M : zm_M} {f a : Nat} : fn_ma_stepInit [.inr (17, 0), .inl (nI a), .inl (-nI 1), .inr (23, f)] M = some (nI 0, M) := by
  rw [eq_ma_stepInit]
  simp only [nz_0, nz_1, nz_2, nz_3, nz_4, nz_5, nz_6, nz_7, nz_8, nz_9, nz_10, nz_11, nz_12, nz_13, nz_14, nz_15, nz_16, nz_17, nz_18, nz_19, nz_20, nz_21, nz_22, nz_23, nz_24, nz_25, nz_26, nz_27, nz_28, nz_29, nz_30, nz_31, nz_32, nz_33, nz_34, nz_35, nz_36, nz_37, nz_38, nz_39, nz_40, nz_41, nz_42, nz_43, nz_44, nz_45, nz_46, nz_47, nz_48, nz_49, nz_50, nz_51, nz_63, nz_64, nz_66, nz_127, nz_128, nz_246, nz_247, nz_248, nz_250, nz_251, nz_252, nz_254, nz_255, nz_256, nz_400, nz_2500]
  rw [if_neg (vz_ne (by omega)), sc_kind_m1]
  simp only [Option.bind_some]
  rw [if_neg (by decide)]
