/-! which PLACES have a row; whether the METHOD is not WRONG -/
def sp_r1 (P : sp_P) (p : Nat) : Bool := decide (0 < p) && decide (p < pg_n P) && sp_end (pg_op P (p - 1))
def sp_r2 (P : sp_P) (k p : Nat) : Bool := (List.range k).any fun q => sp_jmp (pg_op P q) && pg_b P q == p
def sp_r3 (P : sp_P) (k p : Nat) : Bool := (List.range k).any fun h => (pg_hd P h).2.2.1 == p
def sp_row (P : sp_P) (p : Nat) : Bool := sp_r1 P p || sp_r2 P (pg_n P) p || sp_r3 P (pg_han P).length p
theorem sp_r2_s (P : sp_P) (k p : Nat) : sp_r2 P (k + 1) p = (sp_r2 P k p || (sp_jmp (pg_op P k) && pg_b P k == p)) := by
  unfold sp_r2
  rw [List.range_succ, List.any_append]
  simp
theorem sp_r3_s (P : sp_P) (k p : Nat) : sp_r3 P (k + 1) p = (sp_r3 P k p || (pg_hd P k).2.2.1 == p) := by
  unfold sp_r3
  rw [List.range_succ, List.any_append]
  simp
/-- only the marks are others -/
theorem sc_mr1 {P : sp_P} (hwP : wf_P P) : ∀ (k p n : Nat) (M : zm_M), p + k = 50 → k < n → rc_P P M → (∀ j, j < p → M 20 0 j = bI (sp_r1 P j)) → ∃ M' n', rr_pr_markRows n 2 [some (.inr (5, 0)), some (.inr (20, 0)), some (.inl (nI p))] [] M = rr_pr_markRows (n' + 1) 50 [some (.inr (5, 0)), some (.inr (20, 0)), some (.inl (nI 0))] [] M' ∧ n ≤ n' + 1 + k ∧ zo_a 20 0 M M' ∧ ∀ j, j < 50 → M' 20 0 j = bI (sp_r1 P j) := by
  have h50 := hwP.n
  intro k
  induction k with
  | zero =>
    intro p n M hk hn hP hM
    obtain ⟨n, rfl⟩ : ∃ m, n = m + 1 := ⟨n - 1, by omega⟩
    rw [eq_pr_markRows_2]
    simp only [nz_0, nz_1, nz_2, nz_3, nz_4, nz_5, nz_6, nz_7, nz_8, nz_9, nz_10, nz_11, nz_12, nz_13, nz_14, nz_15, nz_16, nz_17, nz_18, nz_19, nz_20, nz_21, nz_22, nz_23, nz_24, nz_25, nz_26, nz_27, nz_28, nz_29, nz_30, nz_31, nz_32, nz_33, nz_34, nz_35, nz_36, nz_37, nz_38, nz_39, nz_40, nz_41, nz_42, nz_43, nz_44, nz_45, nz_46, nz_47, nz_48, nz_49, nz_50, nz_51, nz_63, nz_64, nz_66, nz_127, nz_128, nz_246, nz_247, nz_248, nz_250, nz_251, nz_252, nz_254, nz_255, nz_256, nz_400, nz_2500]
    rw [if_neg (ni_nl (by omega) (by omega) (by omega))]
    exact ⟨M, n, rfl, by omega, zo_a.rf, fun j hj => hM j (by omega)⟩
  | succ k ih =>
    intro p n M hk hn hP hM
    obtain ⟨n, rfl⟩ : ∃ m, n = m + 1 := ⟨n - 1, by omega⟩
    rw [eq_pr_markRows_2]
    simp only [nz_0, nz_1, nz_2, nz_3, nz_4, nz_5, nz_6, nz_7, nz_8, nz_9, nz_10, nz_11, nz_12, nz_13, nz_14, nz_15, nz_16, nz_17, nz_18, nz_19, nz_20, nz_21, nz_22, nz_23, nz_24, nz_25, nz_26, nz_27, nz_28, nz_29, nz_30, nz_31, nz_32, nz_33, nz_34, nz_35, nz_36, nz_37, nz_38, nz_39, nz_40, nz_41, nz_42, nz_43, nz_44, nz_45, nz_46, nz_47, nz_48, nz_49, nz_50, nz_51, nz_63, nz_64, nz_66, nz_127, nz_128, nz_246, nz_247, nz_248, nz_250, nz_251, nz_252, nz_254, nz_255, nz_256, nz_400, nz_2500, nI_add]
    rw [if_pos (ni_lt (by omega) (by omega) (by omega)), nI_clamp (by omega), hP.n]
    simp only [if_neg (ni_in (show p < 50 by omega) (show p < 2 ^ 31 by omega))]
    have key : ∀ b : Bool, b = sp_r1 P p → ∃ M' n', rr_pr_markRows n 2 [some (.inr (5, 0)), some (.inr (20, 0)), some (.inl (nI (p + 1)))] [] (zm_up M 20 0 p (bI b)) = rr_pr_markRows (n' + 1) 50 [some (.inr (5, 0)), some (.inr (20, 0)), some (.inl (nI 0))] [] M' ∧ n + 1 ≤ n' + 1 + (k + 1) ∧ zo_a 20 0 M M' ∧ ∀ j, j < 50 → M' 20 0 j = bI (sp_r1 P j) := by
      intro b hb
      obtain ⟨M', n', h1, h2, h3, h4⟩ := ih (p + 1) n (zm_up M 20 0 p (bI b)) (by omega) (by omega) (hP.kept fun s hs => zu_s (by omega)) (by
        intro j hj
        by_cases e : j = p
        · subst e
          rw [zu_e, hb]
        · rw [zu_k e]
          exact hM j (by omega))
      exact ⟨M', n', h1, by omega, zo_a.up.tr h3, h4⟩
    by_cases e0 : p = 0
    · subst e0
      rw [if_neg (ni_nl (by omega) (by omega) (by omega)), show nI 0 &&& nI 1 = bI false by decide]
      exact key false (by unfold sp_r1; simp)
    · rw [if_pos (ni_lt (by omega) (by omega) (by omega))]
      by_cases e1 : p < pg_n P
      · have h40 : pg_op P (p - 1) < 40 := (wf_at hwP (show p - 1 < pg_n P by omega)).1
        rw [if_pos (ni_lt e1 (by omega) (by omega)), pk_sub (by omega), nI_clamp (by omega), if_neg (ni_in (show p - 1 < 50 by omega) (by omega)), (hP.i (p - 1) (by omega)).1, sc_isEnd (by omega)]
        simp only [Option.bind_some, bI_0]
        rcases Bool.eq_false_or_eq_true (sp_end (pg_op P (p - 1))) with he | he
        · rw [if_neg (by rw [he]; decide), show nI 1 &&& nI 1 = bI true by decide]
          exact key true (by unfold sp_r1; rw [he]; simp; omega)
        · rw [if_pos he, show nI 0 &&& nI 1 = bI false by decide]
          exact key false (by unfold sp_r1; rw [he]; simp)
      · rw [if_neg (ni_nl (by omega) (by omega) (by omega)), show nI 0 &&& nI 1 = bI false by decide]
        exact key false (by unfold sp_r1; simp [e1])
theorem sc_mr2 {P : sp_P} (hwP : wf_P P) : ∀ (k p n : Nat) (M : zm_M), p + k = pg_n P → k < n → rc_P P M → (∀ j, j < 50 → M 20 0 j = bI (sp_r1 P j || sp_r2 P p j)) → ∃ M' n', rr_pr_markRows n 50 [some (.inr (5, 0)), some (.inr (20, 0)), some (.inl (nI p))] [] M = rr_pr_markRows (n' + 1) 87 [some (.inr (5, 0)), some (.inr (20, 0)), some (.inl (nI 0))] [] M' ∧ n ≤ n' + 1 + k ∧ zo_a 20 0 M M' ∧ ∀ j, j < 50 → M' 20 0 j = bI (sp_r1 P j || sp_r2 P (pg_n P) j) := by
  have h50 := hwP.n
  intro k
  induction k with
  | zero =>
    intro p n M hk hn hP hM
    obtain ⟨n, rfl⟩ : ∃ m, n = m + 1 := ⟨n - 1, by omega⟩
    rw [eq_pr_markRows_50, hP.n]
    simp only [nz_0, nz_1, nz_2, nz_3, nz_4, nz_5, nz_6, nz_7, nz_8, nz_9, nz_10, nz_11, nz_12, nz_13, nz_14, nz_15, nz_16, nz_17, nz_18, nz_19, nz_20, nz_21, nz_22, nz_23, nz_24, nz_25, nz_26, nz_27, nz_28, nz_29, nz_30, nz_31, nz_32, nz_33, nz_34, nz_35, nz_36, nz_37, nz_38, nz_39, nz_40, nz_41, nz_42, nz_43, nz_44, nz_45, nz_46, nz_47, nz_48, nz_49, nz_50, nz_51, nz_63, nz_64, nz_66, nz_127, nz_128, nz_246, nz_247, nz_248, nz_250, nz_251, nz_252, nz_254, nz_255, nz_256, nz_400, nz_2500]
    rw [if_neg (ni_nl (by omega) (by omega) (by omega))]
    have : p = pg_n P := by omega
    rw [this] at hM
    exact ⟨M, n, rfl, by omega, zo_a.rf, hM⟩
  | succ k ih =>
    intro p n M hk hn hP hM
    obtain ⟨n, rfl⟩ : ∃ m, n = m + 1 := ⟨n - 1, by omega⟩
    have hI := wf_at hwP (show p < pg_n P by omega)
    have h40 : pg_op P p < 40 := hI.1
    rw [eq_pr_markRows_50, hP.n]
    simp only [nz_0, nz_1, nz_2, nz_3, nz_4, nz_5, nz_6, nz_7, nz_8, nz_9, nz_10, nz_11, nz_12, nz_13, nz_14, nz_15, nz_16, nz_17, nz_18, nz_19, nz_20, nz_21, nz_22, nz_23, nz_24, nz_25, nz_26, nz_27, nz_28, nz_29, nz_30, nz_31, nz_32, nz_33, nz_34, nz_35, nz_36, nz_37, nz_38, nz_39, nz_40, nz_41, nz_42, nz_43, nz_44, nz_45, nz_46, nz_47, nz_48, nz_49, nz_50, nz_51, nz_63, nz_64, nz_66, nz_127, nz_128, nz_246, nz_247, nz_248, nz_250, nz_251, nz_252, nz_254, nz_255, nz_256, nz_400, nz_2500, nI_add]
    rw [if_pos (ni_lt (by omega) (by omega) (by omega)), nI_clamp (by omega)]
    simp only [if_neg (ni_in (show p < 50 by omega) (show p < 2 ^ 31 by omega))]
    rw [(hP.i p (by omega)).1, sc_isJump (by omega)]
    simp only [Option.bind_some, bI_0]
    rcases Bool.eq_false_or_eq_true (sp_jmp (pg_op P p)) with hj | hj
    · have hb : pg_b P p < 50 := by
        have hj := hj
        unfold sp_jmp at hj
        simp only [Bool.and_eq_true, decide_eq_true_eq] at hj
        exact hI.2.2.1 hj.1 hj.2
      rw [if_neg (by rw [hj]; decide), (hP.i p (by omega)).2.2, nI_clamp (by omega), if_neg (ni_in hb (by omega)), show nI 1 &&& nI 1 = bI true by decide]
      obtain ⟨M', n', h1, h2, h3, h4⟩ := ih (p + 1) n (zm_up M 20 0 (pg_b P p) (bI true)) (by omega) (by omega) (hP.kept fun s hs => zu_s (by omega)) (by
        intro j hj2
        rw [sp_r2_s, hj]
        by_cases e : j = pg_b P p
        · rw [e, zu_e]
          simp
        · rw [zu_k e, hM j hj2]
          rw [show (pg_b P p == j) = false from beq_eq_false_iff_ne.mpr (fun q => e q.symm), Bool.and_false, Bool.or_false])
      exact ⟨M', n', h1, by omega, zo_a.up.tr h3, h4⟩
    · rw [if_pos hj]
      obtain ⟨M', n', h1, h2, h3, h4⟩ := ih (p + 1) n M (by omega) (by omega) hP (by
        intro j hj2
        rw [sp_r2_s, hj, hM j hj2]
        simp)
      exact ⟨M', n', h1, by omega, h3, h4⟩
theorem sc_mr3 {P : sp_P} (hwP : wf_P P) : ∀ (k p n : Nat) (M : zm_M), p + k = (pg_han P).length → k < n → rc_P P M → (∀ j, j < 50 → M 20 0 j = bI (sp_r1 P j || sp_r2 P (pg_n P) j || sp_r3 P p j)) → ∃ M', rr_pr_markRows n 87 [some (.inr (5, 0)), some (.inr (20, 0)), some (.inl (nI p))] [] M = some M' ∧ zo_a 20 0 M M' ∧ ∀ j, j < 50 → M' 20 0 j = bI (sp_row P j) := by
  have h4 : (pg_han P).length ≤ 4 := hwP.2.2.2.2.2.2.2.1
  intro k
  induction k with
  | zero =>
    intro p n M hk hn hP hM
    obtain ⟨n, rfl⟩ : ∃ m, n = m + 1 := ⟨n - 1, by omega⟩
    rw [eq_pr_markRows_87, hP.h.1, if_neg (ni_nl (by omega) (by omega) (by omega))]
    have : p = (pg_han P).length := by omega
    rw [this] at hM
    exact ⟨M, rfl, zo_a.rf, hM⟩
  | succ k ih =>
    intro p n M hk hn hP hM
    obtain ⟨n, rfl⟩ : ∃ m, n = m + 1 := ⟨n - 1, by omega⟩
    have hH := wf_hdl hwP (show p < _ by omega)
    unfold wf_H at hH
    rw [eq_pr_markRows_87, hP.h.1, if_pos (ni_lt (by omega) (by omega) (by omega)), nI_clamp (by omega)]
    simp only [nz_0, nz_1, nz_2, nz_3, nz_4, nz_5, nz_6, nz_7, nz_8, nz_9, nz_10, nz_11, nz_12, nz_13, nz_14, nz_15, nz_16, nz_17, nz_18, nz_19, nz_20, nz_21, nz_22, nz_23, nz_24, nz_25, nz_26, nz_27, nz_28, nz_29, nz_30, nz_31, nz_32, nz_33, nz_34, nz_35, nz_36, nz_37, nz_38, nz_39, nz_40, nz_41, nz_42, nz_43, nz_44, nz_45, nz_46, nz_47, nz_48, nz_49, nz_50, nz_51, nz_63, nz_64, nz_66, nz_127, nz_128, nz_246, nz_247, nz_248, nz_250, nz_251, nz_252, nz_254, nz_255, nz_256, nz_400, nz_2500, nI_add]
    rw [if_neg (ni_in (show p < 4 by omega) (by omega)), (hP.h.2 p (by omega)).2.2.1, nI_clamp (by omega), if_neg (ni_in (show (pg_hd P p).2.2.1 < 50 by omega) (by omega)), show nI 1 &&& nI 1 = bI true by decide]
    obtain ⟨M', h1, h3, h4⟩ := ih (p + 1) n (zm_up M 20 0 (pg_hd P p).2.2.1 (bI true)) (by omega) (by omega) (hP.kept fun s hs => zu_s (by omega)) (by
      intro j hj2
      rw [sp_r3_s]
      by_cases e : j = (pg_hd P p).2.2.1
      · rw [e, zu_e]
        simp
      · rw [zu_k e, hM j hj2]
        rw [show ((pg_hd P p).2.2.1 == j) = false from beq_eq_false_iff_ne.mpr (fun q => e q.symm), Bool.or_false])
    exact ⟨M', h1, zo_a.up.tr h3, h4⟩
theorem sc_markRows {P : sp_P} {M : zm_M} (hwP : wf_P P) (hP : rc_P P M) : ∃ M', fn_pr_markRows [.inr (5, 0), .inr (20, 0)] M = some M' ∧ zo_a 20 0 M M' ∧ ∀ j, j < 50 → M' 20 0 j = bI (sp_row P j) := by
  have h4 : (pg_han P).length ≤ 4 := hwP.2.2.2.2.2.2.2.1
  have h50 := hwP.n
  rw [eq_pr_markRows, show (1073741824 : Nat) = 1073741823 + 1 from rfl, eq_pr_markRows_0, nz_0]
  obtain ⟨M1, n1, a1, a2, a3, a4⟩ := sc_mr1 hwP 50 0 (1073741823 + 1) M (by omega) (by omega) hP (fun j hj => by omega)
  have hP1 : rc_P P M1 := hP.kept fun s hs => a3.s (by omega)
  obtain ⟨M2, n2, b1, b2, b3, b4⟩ := sc_mr2 hwP (pg_n P) 0 (n1 + 1) M1 (by omega) (by omega) hP1 (by
    intro j hj
    rw [a4 j hj]
    simp [sp_r2])
  have hP2 : rc_P P M2 := hP1.kept fun s hs => b3.s (by omega)
  obtain ⟨M3, c1, c3, c4⟩ := sc_mr3 hwP (pg_han P).length 0 (n2 + 1) M2 (by omega) (by omega) hP2 (by
    intro j hj
    rw [b4 j hj]
    simp [sp_r3])
  exact ⟨M3, by rw [a1, b1, c1], (a3.tr b3).tr c3, c4⟩
/-- a PLACE of a METHOD that is not WRONG -/
def sp_wp (P : sp_P) (B : af_A) (p : Nat) : Bool := match B p with
  | none => false
  | some F => !(sp_row P p && F.2.2 && !sp_ht F.1)
def sp_whole (P : sp_P) (B : af_A) : Bool := (List.range' 0 (pg_n P)).all (sp_wp P B) && decide (0 < pg_n P)
theorem sc_wh_lp {P : sp_P} (hwP : wf_P P) {M : zm_M} {A : af_A} {W : Nat → Bool} (hP : rc_P P M) (hS : rc_S M A W) (hA : af_ok P A) (hR : ∀ j, j < 50 → M 20 0 j = bI (sp_row P j)) : ∀ (k p n : Nat), p + k = pg_n P → k < n → rr_fl_isWhole n 13 [some (.inr (18, 0)), some (.inl (nI p))] [] M = some (bI ((List.range' p k).all (sp_wp P A) && decide (0 < pg_n P)), M) := by
  have h50 := hwP.n
  intro k
  induction k with
  | zero =>
    intro p n hk hn
    obtain ⟨n, rfl⟩ : ∃ m, n = m + 1 := ⟨n - 1, by omega⟩
    rw [eq_fl_isWhole_13, hP.n, if_neg (ni_nl (by omega) (by omega) (by omega))]
    simp only [nz_0, nz_1, nz_2, nz_3, nz_4, nz_5, nz_6, nz_7, nz_8, nz_9, nz_10, nz_11, nz_12, nz_13, nz_14, nz_15, nz_16, nz_17, nz_18, nz_19, nz_20, nz_21, nz_22, nz_23, nz_24, nz_25, nz_26, nz_27, nz_28, nz_29, nz_30, nz_31, nz_32, nz_33, nz_34, nz_35, nz_36, nz_37, nz_38, nz_39, nz_40, nz_41, nz_42, nz_43, nz_44, nz_45, nz_46, nz_47, nz_48, nz_49, nz_50, nz_51, nz_63, nz_64, nz_66, nz_127, nz_128, nz_246, nz_247, nz_248, nz_250, nz_251, nz_252, nz_254, nz_255, nz_256, nz_400, nz_2500]
    by_cases e : 0 < pg_n P
    · rw [if_pos (ni_lt e (by omega) (by omega))]
      simp [e, bI]
    · rw [if_neg (ni_nl (by omega) (by omega) (by omega))]
      simp [e, bI]
  | succ k ih =>
    intro p n hk hn
    obtain ⟨n, rfl⟩ : ∃ m, n = m + 1 := ⟨n - 1, by omega⟩
    obtain ⟨s1, s2, s3⟩ := hS p (by omega)
    rw [eq_fl_isWhole_13, hP.n, if_pos (ni_lt (by omega) (by omega) (by omega)), nI_clamp (by omega)]
    simp only [nz_0, nz_1, nz_2, nz_3, nz_4, nz_5, nz_6, nz_7, nz_8, nz_9, nz_10, nz_11, nz_12, nz_13, nz_14, nz_15, nz_16, nz_17, nz_18, nz_19, nz_20, nz_21, nz_22, nz_23, nz_24, nz_25, nz_26, nz_27, nz_28, nz_29, nz_30, nz_31, nz_32, nz_33, nz_34, nz_35, nz_36, nz_37, nz_38, nz_39, nz_40, nz_41, nz_42, nz_43, nz_44, nz_45, nz_46, nz_47, nz_48, nz_49, nz_50, nz_51, nz_63, nz_64, nz_66, nz_127, nz_128, nz_246, nz_247, nz_248, nz_250, nz_251, nz_252, nz_254, nz_255, nz_256, nz_400, nz_2500, nI_add]
    simp only [if_neg (ni_in (show p < 50 by omega) (show p < 2 ^ 31 by omega))]
    rw [s1, hR p (by omega), List.range'_succ, List.all_cons]
    have ih := ih (p + 1) n (by omega) (by omega)
    cases hAp : A p with
    | none =>
      rw [if_pos (by rfl)]
      have : sp_wp P A p = false := by unfold sp_wp; rw [hAp]
      rw [this]
      rfl
    | some F =>
      rw [if_neg (by rw [Option.isSome_some]; decide)]
      have hw : sp_wp P A p = !(sp_row P p && F.2.2 && !sp_ht F.1) := by unfold sp_wp; rw [hAp]
      have hF := s3 F hAp
      have hok := (hA p F hAp).2.1
      have hr : M 23 p 4 = bI F.2.2 := hF.1.2.2.2.2
      rw [hr, sc_hasRaw hok.2.1 hF.1.2.1 (fun t ht => by have := sp_wt_lt (hok.1.1 t ht); omega), hw]
      simp only [Option.bind_some, bI_0]
      rcases Bool.eq_false_or_eq_true (sp_row P p) with e1 | e1
      · rw [if_neg (by rw [e1]; decide)]
        rcases Bool.eq_false_or_eq_true F.2.2 with e2 | e2
        · rw [if_neg (by rw [e2]; decide)]
          rcases Bool.eq_false_or_eq_true (sp_ht F.1) with e3 | e3
          · rw [if_neg (by rw [e3]; decide), ih, e1, e2, e3]
            simp
          · rw [if_pos e3, e1, e2, e3]
            rfl
        · rw [if_pos e2, ih, e1, e2]
          simp
      · rw [if_pos e1, ih, e1]
        simp
theorem sc_whole {P : sp_P} {M : zm_M} {A : af_A} {W : Nat → Bool} (hwP : wf_P P) (hP : rc_P P M) (hS : rc_S M A W) (hA : af_ok P A) : ∃ M', fn_fl_isWhole [.inr (18, 0)] M = some (bI (sp_whole P A), M') ∧ zo_a 20 0 M M' ∧ ∀ j, j < 50 → M' 20 0 j = bI (sp_row P j) := by
  have h50 := hwP.n
  obtain ⟨M1, a1, a2, a3⟩ := sc_markRows hwP hP
  have hP1 : rc_P P M1 := hP.kept fun s hs => a2.s (by omega)
  have hS1 : rc_S M1 A W := by
    intro p hp
    obtain ⟨s1, s2, s3⟩ := hS p hp
    exact ⟨by rw [a2.s (by decide)]; exact s1, by rw [a2.s (by decide)]; exact s2, fun F hF => (s3 F hF).kept (by rw [a2.s (by decide)]) (by rw [a2.s (by decide)]) (by rw [a2.s (by decide)])⟩
  rw [eq_fl_isWhole, show (1073741824 : Nat) = 1073741823 + 1 from rfl, eq_fl_isWhole_0, a1, Option.bind_some, nz_0]
  exact ⟨M1, sc_wh_lp hwP hP1 hS1 hA a3 (pg_n P) 0 _ (by omega) (by omega), a2, a3⟩
/-! what the class remembers of it -/
def sp_right (P : sp_P) : Prop := ∃ B, af_least P B ∧ sp_whole P B = true
def fl_kn (P : sp_P) (M : zm_M) (b : Bool) : Prop := M 18 0 8 = nI 1 ∧ M 18 0 9 = bI b ∧ (b = true ↔ sp_right P) ∧ (b = true → ∀ B, af_least P B → (∀ p F, B p = some F → rc_F M p F) ∧ ∀ p, p < 50 → M 20 0 p = bI (sp_row P p))
/-- only THE FLOW's things, all of them -/
def zo_R (M M' : zm_M) : Prop := ∀ s i k, (s < 18 ∨ s = 19 ∨ 25 < s ∨ (22 < s ∧ 50 ≤ i ∧ i ≠ 100)) → M' s i k = M s i k
theorem zo_R.rf {M : zm_M} : zo_R M M := fun _ _ _ _ => rfl
theorem zo_R.tr {M M1 M2 : zm_M} (h : zo_R M M1) (h2 : zo_R M1 M2) : zo_R M M2 := fun s i k a => (h2 s i k a).trans (h s i k a)
theorem zo_S.R {M M' : zm_M} (h : zo_S M M') : zo_R M M' := fun s i k a => h s i k (by omega)
theorem zo_R.P {M M' : zm_M} {P : sp_P} (h : zo_R M M') (hP : rc_P P M) : rc_P P M' := hP.kept fun s hs => by
  funext i k
  exact h s i k (by omega)
theorem zo_R.k {M : zm_M} {j : Nat} {x : Int32} : zo_R M (zm_up M 18 0 j x) := fun s i k a => by rw [zu_s (by omega)]
theorem sc_isRight {P : sp_P} {M : zm_M} (hwP : wf_P P) (hP : rc_P P M) (hk : M 18 0 8 = nI 0 ∨ ∃ b, fl_kn P M b) : ∃ M' b, fn_fl_isRight [.inr (18, 0)] M = some (bI b, M') ∧ zo_R M M' ∧ fl_kn P M' b := by
  have h50 := hwP.n
  rw [eq_fl_isRight, show (1073741824 : Nat) = 1073741823 + 1 from rfl, eq_fl_isRight_0]
  simp only [nz_0, nz_1, nz_2, nz_3, nz_4, nz_5, nz_6, nz_7, nz_8, nz_9, nz_10, nz_11, nz_12, nz_13, nz_14, nz_15, nz_16, nz_17, nz_18, nz_19, nz_20, nz_21, nz_22, nz_23, nz_24, nz_25, nz_26, nz_27, nz_28, nz_29, nz_30, nz_31, nz_32, nz_33, nz_34, nz_35, nz_36, nz_37, nz_38, nz_39, nz_40, nz_41, nz_42, nz_43, nz_44, nz_45, nz_46, nz_47, nz_48, nz_49, nz_50, nz_51, nz_63, nz_64, nz_66, nz_127, nz_128, nz_246, nz_247, nz_248, nz_250, nz_251, nz_252, nz_254, nz_255, nz_256, nz_400, nz_2500]
  rcases hk with hk | ⟨b, hk⟩
  · rw [if_pos hk]
    have hP0 : rc_P P (zm_up (zm_up M 18 0 8 (nI 1)) 18 0 9 (nI 0)) := (zo_R.k.tr zo_R.k).P hP
    obtain ⟨M1, a1, a2, a3⟩ := sc_begin hwP hP0
    have hP1 := a2.P hP0
    have z1 : zo_R M M1 := (zo_R.k.tr zo_R.k).tr a2.R
    have k8 : M1 18 0 8 = nI 1 := by rw [a2.low (by decide), zu_k (by decide), zu_e]
    have k9 : M1 18 0 9 = nI 0 := by rw [a2.low (by decide), zu_e]
    rw [a1]
    simp only [Option.bind_some]
    by_cases hn : 0 < pg_n P
    · have hI := ac_0 hwP hn
      have hph := af_ph_ub hwP hI.1.1 ac_w0
      obtain ⟨g1, g2⟩ := sc_go hwP 100000 0 (1073741823 + 1) M1 (af_0 P) ac_w0 none (by omega) (by omega) hP1 (a3 hn) hI hph
      obtain ⟨l1, l2⟩ := ac_go_s hwP 100000 (af_0 P) ac_w0 hI hph
      cases c : ac_go P 100000 (af_0 P) ac_w0 with
      | none =>
        obtain ⟨M2, b1, b2⟩ := g1 c
        rw [b1]
        refine ⟨M2, false, rfl, z1.tr b2.R, ?_, ?_, ?_, fun q => by cases q⟩
        · rw [b2.low (by decide)]; exact k8
        · rw [b2.low (by decide)]; exact k9
        · refine ⟨fun q => (by cases q), ?_⟩
          rintro ⟨B, hB, -⟩
          exact absurd hB.1 (l2 c B)
      | some B =>
        have hB := l1 B c
        obtain ⟨M2, n', V, v2, o', b1, b2, b3⟩ := g2 B c
        obtain ⟨M3, c1, c2, c3⟩ := sc_whole hwP (b2.P hP1) b3 hB.1.1
        rw [b1, eq_fl_isRight_30]
        simp only [nz_0, nz_1, nz_2, nz_3, nz_4, nz_5, nz_6, nz_7, nz_8, nz_9, nz_10, nz_11, nz_12, nz_13, nz_14, nz_15, nz_16, nz_17, nz_18, nz_19, nz_20, nz_21, nz_22, nz_23, nz_24, nz_25, nz_26, nz_27, nz_28, nz_29, nz_30, nz_31, nz_32, nz_33, nz_34, nz_35, nz_36, nz_37, nz_38, nz_39, nz_40, nz_41, nz_42, nz_43, nz_44, nz_45, nz_46, nz_47, nz_48, nz_49, nz_50, nz_51, nz_63, nz_64, nz_66, nz_127, nz_128, nz_246, nz_247, nz_248, nz_250, nz_251, nz_252, nz_254, nz_255, nz_256, nz_400, nz_2500]
        rw [if_pos trivial, c1]
        simp only [Option.bind_some]
        rw [if_pos (bI_01 _), if_pos (bI_01 _)]
        have z3 : zo_R M M3 := by
          refine (z1.tr b2.R).tr ?_
          intro s i k a
          exact c2 s i k (by omega)
        refine ⟨_, sp_whole P B, rfl, z3.tr zo_R.k, ?_, ?_, ?_, ?_⟩
        · rw [zu_k (by decide), c2.s (by decide), b2.low (by decide)]
          exact k8
        · exact zu_e
        · refine ⟨fun q => ⟨B, hB, q⟩, ?_⟩
          rintro ⟨B2, hB2, q⟩
          rw [hB.u hwP.1 hB2]
          exact q
        · intro q B2 hB2
          rw [hB2.u hwP.1 hB]
          refine ⟨?_, ?_⟩
          · intro p F hF
            have hp := (hB.1.1 p F hF).1
            refine ((b3 p (by omega)).2.2 F hF).kept ?_ ?_ ?_
            · rw [zu_s (by decide), c2.s (by decide)]
            · rw [zu_s (by decide), c2.s (by decide)]
            · rw [zu_s (by decide), c2.s (by decide)]
          · intro p hp
            rw [zu_s (by decide)]
            exact c3 p hp
    · -- no PLACE at all
      have h0 : pg_n P = 0 := by omega
      obtain ⟨M2, c1, c2, c3⟩ := sc_markRows hwP hP1
      have hP2 : rc_P P M2 := hP1.kept fun s hs => c2.s (by omega)
      rw [eq_fl_isRight_30]
      simp only [nz_0, nz_1, nz_2, nz_3, nz_4, nz_5, nz_6, nz_7, nz_8, nz_9, nz_10, nz_11, nz_12, nz_13, nz_14, nz_15, nz_16, nz_17, nz_18, nz_19, nz_20, nz_21, nz_22, nz_23, nz_24, nz_25, nz_26, nz_27, nz_28, nz_29, nz_30, nz_31, nz_32, nz_33, nz_34, nz_35, nz_36, nz_37, nz_38, nz_39, nz_40, nz_41, nz_42, nz_43, nz_44, nz_45, nz_46, nz_47, nz_48, nz_49, nz_50, nz_51, nz_63, nz_64, nz_66, nz_127, nz_128, nz_246, nz_247, nz_248, nz_250, nz_251, nz_252, nz_254, nz_255, nz_256, nz_400, nz_2500, nz_100000]
      rw [if_neg (by decide), if_pos (ni_lt (by omega) (by omega) (by omega)), eq_fl_isRight_44, hP1.n, if_neg (ni_nl (by omega) (by omega) (by omega))]
      rw [show (1073741823 : Nat) = 1073741822 + 1 from rfl, eq_fl_isRight_30]
      simp only [nz_0, nz_1, nz_2, nz_3, nz_4, nz_5, nz_6, nz_7, nz_8, nz_9, nz_10, nz_11, nz_12, nz_13, nz_14, nz_15, nz_16, nz_17, nz_18, nz_19, nz_20, nz_21, nz_22, nz_23, nz_24, nz_25, nz_26, nz_27, nz_28, nz_29, nz_30, nz_31, nz_32, nz_33, nz_34, nz_35, nz_36, nz_37, nz_38, nz_39, nz_40, nz_41, nz_42, nz_43, nz_44, nz_45, nz_46, nz_47, nz_48, nz_49, nz_50, nz_51, nz_63, nz_64, nz_66, nz_127, nz_128, nz_246, nz_247, nz_248, nz_250, nz_251, nz_252, nz_254, nz_255, nz_256, nz_400, nz_2500]
      rw [if_pos trivial, eq_fl_isWhole, show (1073741824 : Nat) = 1073741823 + 1 from rfl, eq_fl_isWhole_0, c1]
      simp only [Option.bind_some]
      rw [eq_fl_isWhole_13, hP2.n]
      simp only [nz_0, nz_1, nz_2, nz_3, nz_4, nz_5, nz_6, nz_7, nz_8, nz_9, nz_10, nz_11, nz_12, nz_13, nz_14, nz_15, nz_16, nz_17, nz_18, nz_19, nz_20, nz_21, nz_22, nz_23, nz_24, nz_25, nz_26, nz_27, nz_28, nz_29, nz_30, nz_31, nz_32, nz_33, nz_34, nz_35, nz_36, nz_37, nz_38, nz_39, nz_40, nz_41, nz_42, nz_43, nz_44, nz_45, nz_46, nz_47, nz_48, nz_49, nz_50, nz_51, nz_63, nz_64, nz_66, nz_127, nz_128, nz_246, nz_247, nz_248, nz_250, nz_251, nz_252, nz_254, nz_255, nz_256, nz_400, nz_2500]
      rw [if_neg (ni_nl (by omega) (by omega) (by omega)), if_neg (ni_nl (by omega) (by omega) (by omega))]
      simp only [Option.bind_some]
      rw [if_pos (Or.inl trivial), if_pos (Or.inl trivial)]
      have z3 : zo_R M M2 := z1.tr (fun s i k a => c2 s i k (by omega))
      refine ⟨_, false, rfl, z3.tr zo_R.k, ?_, ?_, ?_, fun q => by cases q⟩
      · rw [zu_k (by decide), c2.s (by decide)]
        exact k8
      · exact zu_e
      · refine ⟨fun q => (by cases q), ?_⟩
        rintro ⟨B, hB, q⟩
        exact absurd hB.1.2.1.1 hn
  · rw [if_neg (by rw [hk.1]; decide), hk.2.1, if_pos (bI_01 b)]
    exact ⟨M, b, rfl, zo_R.rf, hk⟩
