theorem sm_rd {P : sp_P} (hwP : wf_P P) : ∀ (k p n : Nat) (M : zm_M) (A : af_A) (c : Bool), p + k = pg_n P → k + 2 < n → rm_P P M → rm_S M A → af_inv P A → M 35 0 27 = nI 1 → M 35 0 28 = bI c → (ar_rd P k p A = none → ∃ M', rr_mo_isRight n 81 [some (.inr (35, 0)), some (.inl (nI p))] [] M = some (nI 0, M') ∧ zo_B M M') ∧ ∀ B, ar_rd P k p A = some B → ∃ M' n' v, rr_mo_isRight n 81 [some (.inr (35, 0)), some (.inl (nI p))] [] M = rr_mo_isRight n' 60 [some (.inr (35, 0)), some (.inl v)] [] M' ∧ n ≤ n' + k + 1 ∧ zo_B M M' ∧ rm_S M' B ∧ M' 35 0 27 = nI 1 ∧ M' 35 0 28 = bI (c || af_ch A B) := by
  have h50 := hwP.n
  intro k
  induction k with
  | zero =>
    intro p n M A c hk hn hP hS hI h27 h28
    obtain ⟨n, rfl⟩ : ∃ m, n = m + 1 := ⟨n - 1, by omega⟩
    rw [eq_mo_isRight_81, hP.n, if_neg (ni_nl (by omega) (by omega) (by omega)), eq_mo_isRight_199]
    refine ⟨fun q => (by cases q), ?_⟩
    intro B q
    cases q
    have hch : af_ch A A = false := by
      unfold af_ch
      rw [List.any_eq_false]
      intro r _
      simp
    exact ⟨M, n, _, rfl, by omega, zo_B.rf, hS, h27, by rw [hch, Bool.or_false]; exact h28⟩
  | succ k ih =>
    intro p n M A c hk hn hP hS hI h27 h28
    obtain ⟨n, rfl⟩ : ∃ m, n = m + 1 := ⟨n - 1, by omega⟩
    unfold ar_rd
    by_cases hsm : (A p).isSome = true
    · simp only [if_pos hsm]
      obtain ⟨M1, a1, a2, a3, a4⟩ := sm_pr (n := n) hwP (show p < pg_n P by omega) hP hS hI.1 hsm h27 h28
      rw [a1]
      have hP1 := a2.P hP
      cases hb : ar_pr P p A with
      | none =>
        rw [hb] at a3
        obtain ⟨n, rfl⟩ : ∃ m, n = m + 1 + 1 := ⟨n - 2, by omega⟩
        rw [so_stop a3 hP1.n (by omega) (by omega)]
        exact ⟨fun _ => ⟨M1, rfl, a2⟩, fun B q => by cases q⟩
      | some C =>
        rw [hb] at a3
        obtain ⟨x1, x2⟩ := a4 C hb
        obtain ⟨i1, i2, i3⟩ := ar_pr_s hwP hI hsm hb
        obtain ⟨f1, f2⟩ := ih (p + 1) n M1 C (c || af_ch A C) (by omega) (by omega) hP1 x1 i1 a3 x2
        rw [Option.bind_some]
        refine ⟨fun q => ?_, fun B q => ?_⟩
        · obtain ⟨M3, g1, g2⟩ := f1 q
          exact ⟨M3, g1, a2.tr g2⟩
        · obtain ⟨M3, n', v, g1, g2, g3, g4, g5, g6⟩ := f2 B q
          have hle := (ar_rd_s hwP k (p + 1) C B (by omega) i1 q).2.1
          refine ⟨M3, n', v, g1, by omega, a2.tr g3, g4, g5, ?_⟩
          rw [g6, Bool.or_assoc, af_ch_tr hwP.1 hI.1 i1.1 i2 hle]
    · have hno : (A p).isSome = false := by simpa using hsm
      simp only [if_neg hsm]
      obtain ⟨s1, s2⟩ := hS p (by omega)
      rw [eq_mo_isRight_81, hP.n, h27]
      simp only [nz_0, nz_1, nz_2, nz_3, nz_4, nz_5, nz_6, nz_7, nz_8, nz_9, nz_10, nz_11, nz_12, nz_13, nz_14, nz_15, nz_16, nz_17, nz_18, nz_19, nz_20, nz_21, nz_22, nz_23, nz_24, nz_25, nz_26, nz_27, nz_28, nz_29, nz_30, nz_31, nz_32, nz_33, nz_34, nz_35, nz_36, nz_37, nz_38, nz_39, nz_40, nz_41, nz_42, nz_43, nz_44, nz_45, nz_46, nz_47, nz_48, nz_49, nz_50, nz_51, nz_63, nz_64, nz_66, nz_127, nz_128, nz_246, nz_247, nz_248, nz_250, nz_251, nz_252, nz_254, nz_255, nz_256, nz_400, nz_2500]
      rw [if_pos (ni_lt (by omega) (by omega) (by omega)), if_neg (by decide), nI_clamp (by omega)]
      simp only [if_neg (ni_in (show p < 50 by omega) (show p < 2 ^ 31 by omega))]
      rw [s1, if_pos (by rw [hno]; decide), eq_mo_isRight_193]
      simp only [nz_0, nz_1, nz_2, nz_3, nz_4, nz_5, nz_6, nz_7, nz_8, nz_9, nz_10, nz_11, nz_12, nz_13, nz_14, nz_15, nz_16, nz_17, nz_18, nz_19, nz_20, nz_21, nz_22, nz_23, nz_24, nz_25, nz_26, nz_27, nz_28, nz_29, nz_30, nz_31, nz_32, nz_33, nz_34, nz_35, nz_36, nz_37, nz_38, nz_39, nz_40, nz_41, nz_42, nz_43, nz_44, nz_45, nz_46, nz_47, nz_48, nz_49, nz_50, nz_51, nz_63, nz_64, nz_66, nz_127, nz_128, nz_246, nz_247, nz_248, nz_250, nz_251, nz_252, nz_254, nz_255, nz_256, nz_400, nz_2500, nI_add]
      obtain ⟨f1, f2⟩ := ih (p + 1) n M A c (by omega) (by omega) hP hS hI h27 h28
      refine ⟨f1, fun B q => ?_⟩
      obtain ⟨M3, n', v, g1, g2, g3, g4, g5, g6⟩ := f2 B q
      exact ⟨M3, n', v, g1, by omega, g3, g4, g5, g6⟩
theorem sm_go {P : sp_P} (hwP : wf_P P) : ∀ (k n : Nat) (M : zm_M) (A : af_A) (v : Int32), 60 * k + 60 < n → rm_P P M → rm_S M A → af_inv P A → af_to P A 0 (sp_fst P) → sm (af_m A) (pg_n P) < k → M 35 0 27 = nI 1 → M 35 0 28 = nI 1 → (ar_go P k A = none → ∃ M', rr_mo_isRight n 60 [some (.inr (35, 0)), some (.inl v)] [] M = some (nI 0, M') ∧ zo_B M M') ∧ ∀ B, ar_go P k A = some B → ∃ M' n', rr_mo_isRight n 60 [some (.inr (35, 0)), some (.inl v)] [] M = rr_mo_isRight (n' + 1) 204 [some (.inr (35, 0)), some (.inl (nI 0))] [] M' ∧ 60 ≤ n' ∧ zo_B M M' ∧ rm_S M' B ∧ M' 35 0 27 = nI 1 := by
  have h50 := hwP.n
  intro k
  induction k with
  | zero =>
    intro n M A v h2 hP hS hI h0 hph
    omega
  | succ k ih =>
    intro n M A v h2 hP hS hI h0 hph h27 h28
    obtain ⟨n, rfl⟩ : ∃ m, n = m + 1 := ⟨n - 1, by omega⟩
    rw [eq_mo_isRight_60, h27, h28]
    simp only [nz_0, nz_1, nz_2, nz_3, nz_4, nz_5, nz_6, nz_7, nz_8, nz_9, nz_10, nz_11, nz_12, nz_13, nz_14, nz_15, nz_16, nz_17, nz_18, nz_19, nz_20, nz_21, nz_22, nz_23, nz_24, nz_25, nz_26, nz_27, nz_28, nz_29, nz_30, nz_31, nz_32, nz_33, nz_34, nz_35, nz_36, nz_37, nz_38, nz_39, nz_40, nz_41, nz_42, nz_43, nz_44, nz_45, nz_46, nz_47, nz_48, nz_49, nz_50, nz_51, nz_63, nz_64, nz_66, nz_127, nz_128, nz_246, nz_247, nz_248, nz_250, nz_251, nz_252, nz_254, nz_255, nz_256, nz_400, nz_2500]
    rw [if_neg (by decide), if_neg (by decide)]
    have z0 : zo_B M (zm_up M 35 0 28 (nI 0)) := zo_B.f (by omega)
    obtain ⟨f1, f2⟩ := sm_rd hwP (pg_n P) 0 (n + 1) (zm_up M 35 0 28 (nI 0)) A false (by omega) (by omega) (z0.P hP) hS.f hI (by rw [zu_k (by decide)]; exact h27) zu_e
    unfold ar_go
    cases c : ar_rd P (pg_n P) 0 A with
    | none =>
      refine ⟨fun _ => ?_, fun B q => by cases q⟩
      obtain ⟨M', g1, g2⟩ := f1 c
      exact ⟨M', g1, z0.tr g2⟩
    | some B =>
      obtain ⟨j1, j2, j3⟩ := ar_rd_s hwP _ 0 A B (by omega) hI c
      obtain ⟨M', n', v', g1, g2, g3, g4, g5, g6⟩ := f2 B c
      rw [Bool.false_or] at g6
      rw [g1, Option.bind_some]
      cases e : af_ch A B with
      | true =>
        rw [e] at g6
        simp only [if_true]
        obtain ⟨r, r1, r2⟩ := af_ch_t e
        have hlt : sm (af_m B) (pg_n P) < sm (af_m A) (pg_n P) := by
          refine sm_lt (k := r) (fun i _ => ?_) ?_ ?_
          · rcases af_m_lt hwP.1 hI.1 j1.1 j2 i with q | q
            · have : af_m B i = af_m A i := by unfold af_m; rw [q]
              omega
            · omega
          · cases e2 : B r with
            | some G => exact (j1.1 r G e2).1
            | none =>
              cases e3 : A r with
              | some F => exact (hI.1 r F e3).1
              | none => rw [e2, e3] at r2; exact absurd rfl r2
          · rcases af_m_lt hwP.1 hI.1 j1.1 j2 r with q | q
            · exact absurd q r2
            · exact q
        obtain ⟨k1, k2⟩ := ih n' M' B v' (by omega) ((z0.tr g3).P hP) g4 j1 (h0.mono hwP.1 hI.1 (fst_ok hwP).1 j2) (by omega) g5 g6
        refine ⟨fun q => ?_, fun C q => ?_⟩
        · obtain ⟨M3, l1, l2⟩ := k1 q
          exact ⟨M3, l1, (z0.tr g3).tr l2⟩
        · obtain ⟨M3, n3, l1, l4, l2, l3, l5⟩ := k2 C q
          exact ⟨M3, n3, l1, l4, (z0.tr g3).tr l2, l3, l5⟩
      | false =>
        rw [e] at g6
        simp only [Bool.false_eq_true, if_false]
        refine ⟨fun q => (by cases q), fun C q => ?_⟩
        cases q
        obtain ⟨n', rfl⟩ : ∃ m, n' = m + 1 := ⟨n' - 1, by omega⟩
        rw [eq_mo_isRight_60, g6]
        simp only [nz_0, nz_1, nz_2, nz_3, nz_4, nz_5, nz_6, nz_7, nz_8, nz_9, nz_10, nz_11, nz_12, nz_13, nz_14, nz_15, nz_16, nz_17, nz_18, nz_19, nz_20, nz_21, nz_22, nz_23, nz_24, nz_25, nz_26, nz_27, nz_28, nz_29, nz_30, nz_31, nz_32, nz_33, nz_34, nz_35, nz_36, nz_37, nz_38, nz_39, nz_40, nz_41, nz_42, nz_43, nz_44, nz_45, nz_46, nz_47, nz_48, nz_49, nz_50, nz_51, nz_63, nz_64, nz_66, nz_127, nz_128, nz_246, nz_247, nz_248, nz_250, nz_251, nz_252, nz_254, nz_255, nz_256, nz_400, nz_2500]
        rw [if_pos (by decide), eq_mo_isRight_202, nz_0]
        exact ⟨M', n', rfl, by omega, z0.tr g3, g4, g5⟩
/-! whether all is well at the end -/
theorem so_hr3 {P : sp_P} (hwP : wf_P P) {M : zm_M} (hP : rm_P P M) {p : Nat} (hp : p < 50) : ∀ (k h n : Nat), h + k = (pg_han P).length → k < n → rr_mo_hasRow n 66 [some (.inr (35, 0)), some (.inl (nI p)), some (.inl (nI h))] [] M = some (bI ((List.range' h k).any fun h => (pg_hd P h).2.2.1 == p), M) := by
  have h4 : (pg_han P).length ≤ 4 := hwP.2.2.2.2.2.2.2.1
  intro k
  induction k with
  | zero =>
    intro h n hk hn
    obtain ⟨n, rfl⟩ : ∃ m, n = m + 1 := ⟨n - 1, by omega⟩
    rw [eq_mo_hasRow_66, hP.h.1, if_neg (ni_nl (by omega) (by omega) (by omega))]
    rfl
  | succ k ih =>
    intro h n hk hn
    obtain ⟨n, rfl⟩ : ∃ m, n = m + 1 := ⟨n - 1, by omega⟩
    have hH := wf_hdl hwP (show h < _ by omega)
    unfold wf_H at hH
    rw [eq_mo_hasRow_66, hP.h.1, if_pos (ni_lt (by omega) (by omega) (by omega)), nI_clamp (by omega)]
    simp only [nz_0, nz_1, nz_2, nz_3, nz_4, nz_5, nz_6, nz_7, nz_8, nz_9, nz_10, nz_11, nz_12, nz_13, nz_14, nz_15, nz_16, nz_17, nz_18, nz_19, nz_20, nz_21, nz_22, nz_23, nz_24, nz_25, nz_26, nz_27, nz_28, nz_29, nz_30, nz_31, nz_32, nz_33, nz_34, nz_35, nz_36, nz_37, nz_38, nz_39, nz_40, nz_41, nz_42, nz_43, nz_44, nz_45, nz_46, nz_47, nz_48, nz_49, nz_50, nz_51, nz_63, nz_64, nz_66, nz_127, nz_128, nz_246, nz_247, nz_248, nz_250, nz_251, nz_252, nz_254, nz_255, nz_256, nz_400, nz_2500, nI_add]
    rw [if_neg (ni_in (show h < 4 by omega) (by omega)), (hP.h.2 h (by omega)).2.2.1, List.range'_succ, List.any_cons]
    by_cases e : (pg_hd P h).2.2.1 = p
    · rw [if_pos (by rw [e]), show ((pg_hd P h).2.2.1 == p) = true from beq_iff_eq.mpr e]
      rfl
    · rw [if_neg (ni_ne e (by omega) (by omega)), show ((pg_hd P h).2.2.1 == p) = false from beq_eq_false_iff_ne.mpr e, Bool.false_or]
      exact ih (h + 1) n (by omega) (by omega)
theorem so_hr2 {P : sp_P} (hwP : wf_P P) {M : zm_M} (hP : rm_P P M) {p : Nat} (hp : p < 50) : ∀ (k q n : Nat), q + k = pg_n P → k + 5 < n → rr_mo_hasRow n 22 [some (.inr (35, 0)), some (.inl (nI p)), some (.inl (nI q))] [] M = some (bI (((List.range' q k).any fun q => sp_jmp (pg_op P q) && pg_b P q == p) || sp_r3 P (pg_han P).length p), M) := by
  have h4 : (pg_han P).length ≤ 4 := hwP.2.2.2.2.2.2.2.1
  have h50 := hwP.n
  intro k
  induction k with
  | zero =>
    intro q n hk hn
    obtain ⟨n, rfl⟩ : ∃ m, n = m + 1 := ⟨n - 1, by omega⟩
    rw [eq_mo_hasRow_22, hP.n, if_neg (ni_nl (by omega) (by omega) (by omega)), nz_0, so_hr3 hwP hP hp (pg_han P).length 0 (n + 1) (by omega) (by omega)]
    unfold sp_r3
    rw [List.range_eq_range']
    rfl
  | succ k ih =>
    intro q n hk hn
    obtain ⟨n, rfl⟩ : ∃ m, n = m + 1 := ⟨n - 1, by omega⟩
    have hI := wf_at hwP (show q < pg_n P by omega)
    have h40 : pg_op P q < 40 := hI.1
    rw [eq_mo_hasRow_22, hP.n, if_pos (ni_lt (by omega) (by omega) (by omega)), nI_clamp (by omega)]
    simp only [nz_0, nz_1, nz_2, nz_3, nz_4, nz_5, nz_6, nz_7, nz_8, nz_9, nz_10, nz_11, nz_12, nz_13, nz_14, nz_15, nz_16, nz_17, nz_18, nz_19, nz_20, nz_21, nz_22, nz_23, nz_24, nz_25, nz_26, nz_27, nz_28, nz_29, nz_30, nz_31, nz_32, nz_33, nz_34, nz_35, nz_36, nz_37, nz_38, nz_39, nz_40, nz_41, nz_42, nz_43, nz_44, nz_45, nz_46, nz_47, nz_48, nz_49, nz_50, nz_51, nz_63, nz_64, nz_66, nz_127, nz_128, nz_246, nz_247, nz_248, nz_250, nz_251, nz_252, nz_254, nz_255, nz_256, nz_400, nz_2500, nI_add]
    simp only [if_neg (ni_in (show q < 50 by omega) (show q < 2 ^ 31 by omega))]
    rw [(hP.i q (by omega)).1, so_jmp (by omega), List.range'_succ, List.any_cons]
    simp only [Option.bind_some, bI_0]
    have ih := ih (q + 1) n (by omega) (by omega)
    rcases Bool.eq_false_or_eq_true (sp_jmp (pg_op P q)) with hj | hj
    · have hj' := hj
      unfold sp_jmp at hj'
      simp only [Bool.and_eq_true, decide_eq_true_eq] at hj'
      have hb50 : pg_b P q < 50 := hI.2.2.1 hj'.1 hj'.2
      rw [if_neg (by rw [hj]; decide), (hP.i q (by omega)).2.2, hj]
      by_cases e : pg_b P q = p
      · rw [if_pos (by rw [e]), show (pg_b P q == p) = true from beq_iff_eq.mpr e]
        rfl
      · rw [if_neg (ni_ne e (by omega) (by omega)), ih, show (pg_b P q == p) = false from beq_eq_false_iff_ne.mpr e]
        rfl
    · rw [if_pos hj, ih, hj]
      rfl
theorem so_hasRow {P : sp_P} (hwP : wf_P P) {M : zm_M} (hP : rm_P P M) {p : Nat} (hp : p < pg_n P) : fn_mo_hasRow [.inr (35, 0), .inl (nI p)] M = some (bI (sp_row P p), M) := by
  have h50 := hwP.n
  have hr := so_hr2 hwP hP (show p < 50 by omega) (pg_n P) 0 (1073741823 + 1) (by omega) (by omega)
  have hsr : sp_r2 P (pg_n P) p = (List.range' 0 (pg_n P)).any fun q => sp_jmp (pg_op P q) && pg_b P q == p := by
    unfold sp_r2
    rw [List.range_eq_range']
  rw [← hsr] at hr
  rw [eq_mo_hasRow, show (1073741824 : Nat) = 1073741823 + 1 from rfl, eq_mo_hasRow_0]
  simp only [nz_0, nz_1, nz_2, nz_3, nz_4, nz_5, nz_6, nz_7, nz_8, nz_9, nz_10, nz_11, nz_12, nz_13, nz_14, nz_15, nz_16, nz_17, nz_18, nz_19, nz_20, nz_21, nz_22, nz_23, nz_24, nz_25, nz_26, nz_27, nz_28, nz_29, nz_30, nz_31, nz_32, nz_33, nz_34, nz_35, nz_36, nz_37, nz_38, nz_39, nz_40, nz_41, nz_42, nz_43, nz_44, nz_45, nz_46, nz_47, nz_48, nz_49, nz_50, nz_51, nz_63, nz_64, nz_66, nz_127, nz_128, nz_246, nz_247, nz_248, nz_250, nz_251, nz_252, nz_254, nz_255, nz_256, nz_400, nz_2500]
  unfold sp_row
  by_cases e0 : p = 0
  · rw [if_neg (ni_nl (by omega) (by omega) (by omega)), hr]
    have : sp_r1 P p = false := by unfold sp_r1; simp [e0]
    rw [this, Bool.false_or]
  · have h40 : pg_op P (p - 1) < 40 := (wf_at hwP (show p - 1 < pg_n P by omega)).1
    rw [if_pos (ni_lt (by omega) (by omega) (by omega)), pk_sub (by omega), nI_clamp (by omega), if_neg (ni_in (show p - 1 < 50 by omega) (by omega)), (hP.i (p - 1) (by omega)).1, so_isEnd (by omega)]
    simp only [Option.bind_some, bI_0]
    have h1 : sp_r1 P p = sp_end (pg_op P (p - 1)) := by
      unfold sp_r1
      rw [decide_eq_true (show 0 < p by omega), decide_eq_true hp]
      rfl
    rcases Bool.eq_false_or_eq_true (sp_end (pg_op P (p - 1))) with he | he
    · rw [if_neg (by rw [he]; decide), h1, he]
      rfl
    · rw [if_pos he, hr, h1, he, Bool.false_or]
theorem so_ht_lp {M : zm_M} {p : Nat} (hp : p < 50) {L : List Nat} (hl : L.length = 10) (hM : ∀ j, j < 10 → M 52 0 (10 * p + j) = nI (L.getD j 0)) (hw : ∀ t ∈ L, sp_wt t) : ∀ (k i n : Nat), i + k = 10 → k < n → rr_mo_hasThis n 2 [some (.inr (35, 0)), some (.inl (nI p)), some (.inl (nI i))] [] M = some (bI ((L.drop i).any fun t => t == 6), M) := by
  intro k
  induction k with
  | zero =>
    intro i n hk hn
    obtain ⟨n, rfl⟩ : ∃ m, n = m + 1 := ⟨n - 1, by omega⟩
    rw [eq_mo_hasThis_2]
    simp only [nz_0, nz_1, nz_2, nz_3, nz_4, nz_5, nz_6, nz_7, nz_8, nz_9, nz_10, nz_11, nz_12, nz_13, nz_14, nz_15, nz_16, nz_17, nz_18, nz_19, nz_20, nz_21, nz_22, nz_23, nz_24, nz_25, nz_26, nz_27, nz_28, nz_29, nz_30, nz_31, nz_32, nz_33, nz_34, nz_35, nz_36, nz_37, nz_38, nz_39, nz_40, nz_41, nz_42, nz_43, nz_44, nz_45, nz_46, nz_47, nz_48, nz_49, nz_50, nz_51, nz_63, nz_64, nz_66, nz_127, nz_128, nz_246, nz_247, nz_248, nz_250, nz_251, nz_252, nz_254, nz_255, nz_256, nz_400, nz_2500]
    rw [if_neg (ni_nl (by omega) (by omega) (by omega)), List.drop_eq_nil_of_le (by omega)]
    rfl
  | succ k ih =>
    intro i n hk hn
    obtain ⟨n, rfl⟩ : ∃ m, n = m + 1 := ⟨n - 1, by omega⟩
    have hwl := sp_wt_lt (wt_gd hw i)
    rw [eq_mo_hasThis_2]
    simp only [nz_0, nz_1, nz_2, nz_3, nz_4, nz_5, nz_6, nz_7, nz_8, nz_9, nz_10, nz_11, nz_12, nz_13, nz_14, nz_15, nz_16, nz_17, nz_18, nz_19, nz_20, nz_21, nz_22, nz_23, nz_24, nz_25, nz_26, nz_27, nz_28, nz_29, nz_30, nz_31, nz_32, nz_33, nz_34, nz_35, nz_36, nz_37, nz_38, nz_39, nz_40, nz_41, nz_42, nz_43, nz_44, nz_45, nz_46, nz_47, nz_48, nz_49, nz_50, nz_51, nz_63, nz_64, nz_66, nz_127, nz_128, nz_246, nz_247, nz_248, nz_250, nz_251, nz_252, nz_254, nz_255, nz_256, nz_400, nz_2500, pk_mul, nI_add]
    rw [if_pos (ni_lt (by omega) (by omega) (by omega)), nI_clamp (by omega), if_neg (ni_in (show 10 * p + i < 500 by omega) (by omega)), hM i (by omega), any_drop (by omega)]
    by_cases e : L.getD i 0 = 6
    · rw [if_pos (by rw [e]), show (L.getD i 0 == 6) = true from beq_iff_eq.mpr e]
      rfl
    · rw [if_neg (ni_ne e (by omega) (by omega)), show (L.getD i 0 == 6) = false from beq_eq_false_iff_ne.mpr e, Bool.false_or]
      exact ih (i + 1) n (by omega) (by omega)
theorem so_hasThis {M : zm_M} {p : Nat} {F : sp_F} (hp : p < 50) (hG : rm_G M p F) (hw : wf_F F) : fn_mo_hasThis [.inr (35, 0), .inl (nI p)] M = some (bI (sp_ht F.1), M) := by
  rw [eq_mo_hasThis, show (1073741824 : Nat) = 1073741823 + 1 from rfl, eq_mo_hasThis_0, nz_0, so_ht_lp hp hG.1 (fun j hj => hG.2.1 j hj) hw.1 10 0 _ (by omega) (by omega)]
  rfl
theorem so_wh_stop {M : zm_M} {n p m : Nat} (h0 : M 35 0 27 = nI 0) (hm : M 35 0 5 = nI m) (hp : p < 2 ^ 31) (hm2 : m < 2 ^ 31) : rr_mo_isRight (n + 1) 204 [some (.inr (35, 0)), some (.inl (nI p))] [] M = some (nI 0, M) := by
  rw [eq_mo_isRight_204, hm, h0]
  simp only [nz_0, nz_1, nz_2, nz_3, nz_4, nz_5, nz_6, nz_7, nz_8, nz_9, nz_10, nz_11, nz_12, nz_13, nz_14, nz_15, nz_16, nz_17, nz_18, nz_19, nz_20, nz_21, nz_22, nz_23, nz_24, nz_25, nz_26, nz_27, nz_28, nz_29, nz_30, nz_31, nz_32, nz_33, nz_34, nz_35, nz_36, nz_37, nz_38, nz_39, nz_40, nz_41, nz_42, nz_43, nz_44, nz_45, nz_46, nz_47, nz_48, nz_49, nz_50, nz_51, nz_63, nz_64, nz_66, nz_127, nz_128, nz_246, nz_247, nz_248, nz_250, nz_251, nz_252, nz_254, nz_255, nz_256, nz_400, nz_2500, eq_mo_isRight_264, h0, true_or, if_true]
  rw [ite_self]
theorem sm_wh_lp {P : sp_P} (hwP : wf_P P) {M : zm_M} {A : af_A} (hP : rm_P P M) (hS : rm_S M A) (hA : af_ok P A) (h27 : M 35 0 27 = nI 1) : ∀ (k p n : Nat), p + k = pg_n P → k + 1 < n → ∃ M', rr_mo_isRight n 204 [some (.inr (35, 0)), some (.inl (nI p))] [] M = some (bI ((List.range' p k).all (sp_wp P A)), M') ∧ (M' = M ∨ M' = zm_up M 35 0 27 (nI 0)) := by
  have h50 := hwP.n
  intro k
  induction k with
  | zero =>
    intro p n hk hn
    obtain ⟨n, rfl⟩ : ∃ m, n = m + 1 := ⟨n - 1, by omega⟩
    rw [eq_mo_isRight_204, hP.n, if_neg (ni_nl (by omega) (by omega) (by omega)), eq_mo_isRight_264, h27]
    simp only [nz_0, nz_1, nz_2, nz_3, nz_4, nz_5, nz_6, nz_7, nz_8, nz_9, nz_10, nz_11, nz_12, nz_13, nz_14, nz_15, nz_16, nz_17, nz_18, nz_19, nz_20, nz_21, nz_22, nz_23, nz_24, nz_25, nz_26, nz_27, nz_28, nz_29, nz_30, nz_31, nz_32, nz_33, nz_34, nz_35, nz_36, nz_37, nz_38, nz_39, nz_40, nz_41, nz_42, nz_43, nz_44, nz_45, nz_46, nz_47, nz_48, nz_49, nz_50, nz_51, nz_63, nz_64, nz_66, nz_127, nz_128, nz_246, nz_247, nz_248, nz_250, nz_251, nz_252, nz_254, nz_255, nz_256, nz_400, nz_2500, or_true, if_true]
    exact ⟨M, rfl, Or.inl rfl⟩
  | succ k ih =>
    intro p n hk hn
    obtain ⟨n, rfl⟩ : ∃ m, n = m + 1 := ⟨n - 1, by omega⟩
    obtain ⟨s1, s2⟩ := hS p (by omega)
    rw [eq_mo_isRight_204, hP.n, h27]
    simp only [nz_0, nz_1, nz_2, nz_3, nz_4, nz_5, nz_6, nz_7, nz_8, nz_9, nz_10, nz_11, nz_12, nz_13, nz_14, nz_15, nz_16, nz_17, nz_18, nz_19, nz_20, nz_21, nz_22, nz_23, nz_24, nz_25, nz_26, nz_27, nz_28, nz_29, nz_30, nz_31, nz_32, nz_33, nz_34, nz_35, nz_36, nz_37, nz_38, nz_39, nz_40, nz_41, nz_42, nz_43, nz_44, nz_45, nz_46, nz_47, nz_48, nz_49, nz_50, nz_51, nz_63, nz_64, nz_66, nz_127, nz_128, nz_246, nz_247, nz_248, nz_250, nz_251, nz_252, nz_254, nz_255, nz_256, nz_400, nz_2500]
    rw [if_pos (ni_lt (by omega) (by omega) (by omega)), if_neg (by decide), nI_clamp (by omega)]
    simp only [if_neg (ni_in (show p < 50 by omega) (show p < 2 ^ 31 by omega))]
    rw [s1, List.range'_succ, List.all_cons]
    have ih := ih (p + 1) n (by omega) (by omega)
    have bad : sp_wp P A p = false → ∃ M', rr_mo_isRight (n + 1) 253 [some (.inr (35, 0)), some (.inl (nI p))] [] M = some (bI (sp_wp P A p && (List.range' (p + 1) k).all (sp_wp P A)), M') ∧ (M' = M ∨ M' = zm_up M 35 0 27 (nI 0)) := by
      intro hw
      obtain ⟨n, rfl⟩ : ∃ m, n = m + 1 := ⟨n - 1, by omega⟩
      rw [eq_mo_isRight_253, eq_mo_isRight_258]
      simp only [nz_0, nz_1, nz_2, nz_3, nz_4, nz_5, nz_6, nz_7, nz_8, nz_9, nz_10, nz_11, nz_12, nz_13, nz_14, nz_15, nz_16, nz_17, nz_18, nz_19, nz_20, nz_21, nz_22, nz_23, nz_24, nz_25, nz_26, nz_27, nz_28, nz_29, nz_30, nz_31, nz_32, nz_33, nz_34, nz_35, nz_36, nz_37, nz_38, nz_39, nz_40, nz_41, nz_42, nz_43, nz_44, nz_45, nz_46, nz_47, nz_48, nz_49, nz_50, nz_51, nz_63, nz_64, nz_66, nz_127, nz_128, nz_246, nz_247, nz_248, nz_250, nz_251, nz_252, nz_254, nz_255, nz_256, nz_400, nz_2500, nI_add]
      rw [so_wh_stop (m := pg_n P) zu_e (by rw [zu_k (by decide)]; exact hP.n) (by omega) (by omega), hw]
      exact ⟨_, rfl, Or.inr rfl⟩
    have good : sp_wp P A p = true → ∃ M', rr_mo_isRight (n + 1) 258 [some (.inr (35, 0)), some (.inl (nI p))] [] M = some (bI (sp_wp P A p && (List.range' (p + 1) k).all (sp_wp P A)), M') ∧ (M' = M ∨ M' = zm_up M 35 0 27 (nI 0)) := by
      intro hw
      rw [eq_mo_isRight_258]
      simp only [nz_0, nz_1, nz_2, nz_3, nz_4, nz_5, nz_6, nz_7, nz_8, nz_9, nz_10, nz_11, nz_12, nz_13, nz_14, nz_15, nz_16, nz_17, nz_18, nz_19, nz_20, nz_21, nz_22, nz_23, nz_24, nz_25, nz_26, nz_27, nz_28, nz_29, nz_30, nz_31, nz_32, nz_33, nz_34, nz_35, nz_36, nz_37, nz_38, nz_39, nz_40, nz_41, nz_42, nz_43, nz_44, nz_45, nz_46, nz_47, nz_48, nz_49, nz_50, nz_51, nz_63, nz_64, nz_66, nz_127, nz_128, nz_246, nz_247, nz_248, nz_250, nz_251, nz_252, nz_254, nz_255, nz_256, nz_400, nz_2500, nI_add]
      rw [hw, Bool.true_and]
      exact ih
    cases hAp : A p with
    | none =>
      rw [if_pos (by decide)]
      exact bad (by unfold sp_wp; rw [hAp])
    | some F =>
      have hok := (hA p F hAp).2.1
      have hG := s2 F hAp
      have hw : sp_wp P A p = !(sp_row P p && F.2.2 && !sp_ht F.1) := by unfold sp_wp; rw [hAp]
      have hr : M 50 0 p = bI F.2.2 := hG.2.2.2.2
      rw [if_neg (by rw [Option.isSome_some]; decide), hr, so_hasRow hwP hP (by omega)]
      simp only [Option.bind_some, bI_0]
      rw [so_hasThis (by omega) hG hok.1]
      simp only [Option.bind_some, bI_0]
      rcases Bool.eq_false_or_eq_true F.2.2 with e2 | e2
      · rw [if_neg (by rw [e2]; decide)]
        rcases Bool.eq_false_or_eq_true (sp_row P p) with e1 | e1
        · rw [if_neg (by rw [e1]; decide)]
          rcases Bool.eq_false_or_eq_true (sp_ht F.1) with e3 | e3
          · rw [if_neg (by rw [e3]; decide)]
            exact good (by rw [hw, e1, e2, e3]; rfl)
          · rw [if_pos e3]
            exact bad (by rw [hw, e1, e2, e3]; rfl)
        · rw [if_pos e1]
          exact good (by rw [hw, e1]; rfl)
      · rw [if_pos e2]
        exact good (by rw [hw, e2, Bool.and_false]; rfl)
theorem so_clr : ∀ (k p n : Nat) (M : zm_M), p + k = 50 → k < n → (∀ j, j < p → M 49 0 j = nI 0) → ∃ M' n', rr_mo_isRight n 18 [some (.inr (35, 0)), some (.inl (nI p))] [] M = rr_mo_isRight (n' + 1) 18 [some (.inr (35, 0)), some (.inl (nI 50))] [] M' ∧ n ≤ n' + 1 + k ∧ zo_a 49 0 M M' ∧ ∀ j, j < 50 → M' 49 0 j = nI 0 := by
  intro k
  induction k with
  | zero =>
    intro p n M hk hn hM
    obtain ⟨n, rfl⟩ : ∃ m, n = m + 1 := ⟨n - 1, by omega⟩
    have : p = 50 := by omega
    subst this
    exact ⟨M, n, rfl, by omega, zo_a.rf, hM⟩
  | succ k ih =>
    intro p n M hk hn hM
    obtain ⟨n, rfl⟩ : ∃ m, n = m + 1 := ⟨n - 1, by omega⟩
    rw [eq_mo_isRight_18]
    simp only [nz_0, nz_1, nz_2, nz_3, nz_4, nz_5, nz_6, nz_7, nz_8, nz_9, nz_10, nz_11, nz_12, nz_13, nz_14, nz_15, nz_16, nz_17, nz_18, nz_19, nz_20, nz_21, nz_22, nz_23, nz_24, nz_25, nz_26, nz_27, nz_28, nz_29, nz_30, nz_31, nz_32, nz_33, nz_34, nz_35, nz_36, nz_37, nz_38, nz_39, nz_40, nz_41, nz_42, nz_43, nz_44, nz_45, nz_46, nz_47, nz_48, nz_49, nz_50, nz_51, nz_63, nz_64, nz_66, nz_127, nz_128, nz_246, nz_247, nz_248, nz_250, nz_251, nz_252, nz_254, nz_255, nz_256, nz_400, nz_2500, nI_add]
    rw [if_pos (ni_lt (by omega) (by omega) (by omega)), nI_clamp (by omega), if_neg (ni_in (show p < 50 by omega) (by omega)), show nI 0 &&& nI 1 = nI 0 by decide]
    obtain ⟨M', n', h1, h2, h3, h4⟩ := ih (p + 1) n (zm_up M 49 0 p (nI 0)) (by omega) (by omega) (by
      intro j hj
      by_cases e : j = p
      · subst e
        exact zu_e
      · rw [zu_k e]
        exact hM j (by omega))
    exact ⟨M', n', h1, by omega, zo_a.up.tr h3, h4⟩
theorem sm_arrive0 {P : sp_P} {M : zm_M} (hwP : wf_P P) (hP : rm_P P M) (hS : rm_S M af_z) (hF : rm_F M (sp_fst P)) (hn : 0 < pg_n P) (hr : M 35 0 27 = nI 1) : ∃ M', fn_mo_arrive [.inr (35, 0), .inl (nI 0)] M = some M' ∧ zo_A M M' ∧ M' 35 0 27 = nI 1 ∧ rm_S M' (af_0 P) := by
  have h50 := hwP.n
  have s1 : M 49 0 0 = nI 0 := (hS 0 (by omega)).1
  rw [eq_mo_arrive, show (1073741824 : Nat) = 1073741823 + 1 from rfl, eq_mo_arrive_0, hP.n]
  simp only [nz_0, nz_1, nz_2, nz_3, nz_4, nz_5, nz_6, nz_7, nz_8, nz_9, nz_10, nz_11, nz_12, nz_13, nz_14, nz_15, nz_16, nz_17, nz_18, nz_19, nz_20, nz_21, nz_22, nz_23, nz_24, nz_25, nz_26, nz_27, nz_28, nz_29, nz_30, nz_31, nz_32, nz_33, nz_34, nz_35, nz_36, nz_37, nz_38, nz_39, nz_40, nz_41, nz_42, nz_43, nz_44, nz_45, nz_46, nz_47, nz_48, nz_49, nz_50, nz_51, nz_63, nz_64, nz_66, nz_127, nz_128, nz_246, nz_247, nz_248, nz_250, nz_251, nz_252, nz_254, nz_255, nz_256, nz_400, nz_2500]
  rw [if_pos (ni_lt hn (by omega) (by omega)), nI_clamp (by omega)]
  simp only [if_neg (ni_in (show 0 < 50 by omega) (show 0 < 2 ^ 31 by omega))]
  rw [s1, if_pos rfl, eq_mo_arrive_36]
  simp only [nz_0, nz_1, nz_2, nz_3, nz_4, nz_5, nz_6, nz_7, nz_8, nz_9, nz_10, nz_11, nz_12, nz_13, nz_14, nz_15, nz_16, nz_17, nz_18, nz_19, nz_20, nz_21, nz_22, nz_23, nz_24, nz_25, nz_26, nz_27, nz_28, nz_29, nz_30, nz_31, nz_32, nz_33, nz_34, nz_35, nz_36, nz_37, nz_38, nz_39, nz_40, nz_41, nz_42, nz_43, nz_44, nz_45, nz_46, nz_47, nz_48, nz_49, nz_50, nz_51, nz_63, nz_64, nz_66, nz_127, nz_128, nz_246, nz_247, nz_248, nz_250, nz_251, nz_252, nz_254, nz_255, nz_256, nz_400, nz_2500]
  rw [nI_clamp (by omega), if_neg (ni_in (show 0 < 50 by omega) (by omega)), s1, if_pos rfl]
  obtain ⟨M', e1, e2, e3, e4, e5, e6⟩ := sm_arr_f (n := 1073741823) (show 0 < 50 by omega) hF (fst_8 hwP) (by omega)
  rw [e1]
  refine ⟨M', rfl, e2.A, by rw [e5, hr], ?_⟩
  intro r hr
  by_cases er : r = 0
  · subst er
    unfold af_0
    rw [af_up_e]
    exact ⟨e3, fun G hG => by cases hG; exact e4⟩
  · obtain ⟨r1, r2⟩ := hS r hr
    unfold af_0
    rw [af_up_n _ _ er]
    refine ⟨?_, fun G hG => by cases hG⟩
    rw [e2 49 0 r (by omega) (by omega) (by omega) (by omega)]
    exact r1
theorem sm_isRight {P : sp_P} {M : zm_M} (hwP : wf_P P) (hP : rm_P P M) : ∃ M' b, fn_mo_isRight [.inr (35, 0)] M = some (bI b, M') ∧ zo_B M M' ∧ (b = true ↔ sp_right P) ∧ (b = true → ∀ B, af_least P B → rm_S M' B) := by
  have h50 := hwP.n
  rw [eq_mo_isRight, show (1073741824 : Nat) = 1073741823 + 1 from rfl, eq_mo_isRight_0, hP.n]
  simp only [nz_0, nz_1, nz_2, nz_3, nz_4, nz_5, nz_6, nz_7, nz_8, nz_9, nz_10, nz_11, nz_12, nz_13, nz_14, nz_15, nz_16, nz_17, nz_18, nz_19, nz_20, nz_21, nz_22, nz_23, nz_24, nz_25, nz_26, nz_27, nz_28, nz_29, nz_30, nz_31, nz_32, nz_33, nz_34, nz_35, nz_36, nz_37, nz_38, nz_39, nz_40, nz_41, nz_42, nz_43, nz_44, nz_45, nz_46, nz_47, nz_48, nz_49, nz_50, nz_51, nz_63, nz_64, nz_66, nz_127, nz_128, nz_246, nz_247, nz_248, nz_250, nz_251, nz_252, nz_254, nz_255, nz_256, nz_400, nz_2500]
  by_cases hn : 0 < pg_n P
  · rw [if_pos (ni_lt hn (by omega) (by omega)), eq_mo_isRight_13]
    simp only [nz_0, nz_1, nz_2, nz_3, nz_4, nz_5, nz_6, nz_7, nz_8, nz_9, nz_10, nz_11, nz_12, nz_13, nz_14, nz_15, nz_16, nz_17, nz_18, nz_19, nz_20, nz_21, nz_22, nz_23, nz_24, nz_25, nz_26, nz_27, nz_28, nz_29, nz_30, nz_31, nz_32, nz_33, nz_34, nz_35, nz_36, nz_37, nz_38, nz_39, nz_40, nz_41, nz_42, nz_43, nz_44, nz_45, nz_46, nz_47, nz_48, nz_49, nz_50, nz_51, nz_63, nz_64, nz_66, nz_127, nz_128, nz_246, nz_247, nz_248, nz_250, nz_251, nz_252, nz_254, nz_255, nz_256, nz_400, nz_2500]
    rw [if_pos (Or.inr trivial)]
    obtain ⟨M1, n1, a1, a2, a3, a4⟩ := so_clr 50 0 (1073741823 + 1) (zm_up M 35 0 27 (nI 1)) (by omega) (by omega) (fun j hj => by omega)
    have z1 : zo_B M M1 := by
      refine (zo_B.f (k := 27) (x := nI 1) (by omega)).tr ?_
      intro s i k x y
      exact a3 s i k (by omega)
    have k27 : M1 35 0 27 = nI 1 := by rw [a3.s (by decide), zu_e]
    have hP1 := z1.P hP
    rw [a1, eq_mo_isRight_18]
    simp only [nz_0, nz_1, nz_2, nz_3, nz_4, nz_5, nz_6, nz_7, nz_8, nz_9, nz_10, nz_11, nz_12, nz_13, nz_14, nz_15, nz_16, nz_17, nz_18, nz_19, nz_20, nz_21, nz_22, nz_23, nz_24, nz_25, nz_26, nz_27, nz_28, nz_29, nz_30, nz_31, nz_32, nz_33, nz_34, nz_35, nz_36, nz_37, nz_38, nz_39, nz_40, nz_41, nz_42, nz_43, nz_44, nz_45, nz_46, nz_47, nz_48, nz_49, nz_50, nz_51, nz_63, nz_64, nz_66, nz_127, nz_128, nz_246, nz_247, nz_248, nz_250, nz_251, nz_252, nz_254, nz_255, nz_256, nz_400, nz_2500]
    rw [if_neg (by decide), k27, if_neg (by decide)]
    obtain ⟨M2, b1, b2, b3⟩ := sm_first hwP hP1
    rw [b1]
    simp only [Option.bind_some]
    have hS1 : rm_S M1 af_z := by
      intro p hp
      exact ⟨a4 p hp, fun F q => by cases q⟩
    have hP2 := b2.P hP1
    have k27' : M2 35 0 27 = nI 1 := by rw [b2 35 0 27 (by omega) (by decide) (by decide)]; exact k27
    have k28 : ∃ c, zm_up M2 35 0 28 (nI 0) 35 0 28 = bI c := ⟨false, zu_e⟩
    obtain ⟨M3, c1, c2, c3, c4⟩ := sm_arrive0 hwP hP2 (b2.S hS1) b3 hn k27'
    rw [c1]
    simp only [Option.bind_some]
    have z3 := (z1.tr b2.B).tr c2.B
    have z4 : zo_B M (zm_up M3 35 0 28 (nI 1)) := z3.tr (zo_B.f (by omega))
    obtain ⟨i1, i2, i3⟩ := af_0_s hwP hn
    have hub := af_m_ub hwP i2.1
    obtain ⟨g1, g2⟩ := sm_go hwP 10000 (n1 + 1) (zm_up M3 35 0 28 (nI 1)) (af_0 P) (nI 50) (by omega) (z4.P hP) c4.f i2 i3 (by omega) (by rw [zu_k (by decide)]; exact c3) zu_e
    obtain ⟨l1, l2⟩ := ar_go_s hwP 10000 (af_0 P) i2 i3 (by omega)
    cases c : ar_go P 10000 (af_0 P) with
    | none =>
      obtain ⟨M4, d1, d2⟩ := g1 c
      refine ⟨M4, false, d1, z4.tr d2, ⟨fun q => (by cases q), ?_⟩, fun q => by cases q⟩
      rintro ⟨B, hB, -⟩
      exact absurd hB.1 (l2 c B)
    | some B =>
      have hB := l1 B c
      obtain ⟨M4, n4, d1, d5, d2, d3, d4⟩ := g2 B c
      have hP4 := (z4.tr d2).P hP
      obtain ⟨M5, e1, e2⟩ := sm_wh_lp hwP hP4 d3 hB.1.1 d4 (pg_n P) 0 (n4 + 1) (by omega) (by omega)
      have hwh : sp_whole P B = (List.range' 0 (pg_n P)).all (sp_wp P B) := by
        unfold sp_whole
        rw [decide_eq_true hn, Bool.and_true]
      rw [← hwh] at e1
      have z5 : zo_B M M5 := by
        rcases e2 with rfl | rfl
        · exact z4.tr d2
        · exact (z4.tr d2).tr (zo_B.f (by omega))
      have hS5 : rm_S M5 B := by
        rcases e2 with rfl | rfl
        · exact d3
        · exact d3.f
      refine ⟨M5, sp_whole P B, by rw [d1, e1], z5, ⟨fun q => ⟨B, hB, q⟩, ?_⟩, ?_⟩
      · rintro ⟨B2, hB2, q⟩
        rw [hB.u hwP.1 hB2]
        exact q
      · intro _ B2 hB2
        rw [hB2.u hwP.1 hB]
        exact hS5
  · rw [if_neg (ni_nl (by omega) (by omega) (by omega)), eq_mo_isRight_13]
    simp only [nz_0, nz_1, nz_2, nz_3, nz_4, nz_5, nz_6, nz_7, nz_8, nz_9, nz_10, nz_11, nz_12, nz_13, nz_14, nz_15, nz_16, nz_17, nz_18, nz_19, nz_20, nz_21, nz_22, nz_23, nz_24, nz_25, nz_26, nz_27, nz_28, nz_29, nz_30, nz_31, nz_32, nz_33, nz_34, nz_35, nz_36, nz_37, nz_38, nz_39, nz_40, nz_41, nz_42, nz_43, nz_44, nz_45, nz_46, nz_47, nz_48, nz_49, nz_50, nz_51, nz_63, nz_64, nz_66, nz_127, nz_128, nz_246, nz_247, nz_248, nz_250, nz_251, nz_252, nz_254, nz_255, nz_256, nz_400, nz_2500]
    rw [if_pos (Or.inl trivial)]
    obtain ⟨M1, n1, a1, a2, a3, a4⟩ := so_clr 50 0 (1073741823 + 1) (zm_up M 35 0 27 (nI 0)) (by omega) (by omega) (fun j hj => by omega)
    rw [a1, eq_mo_isRight_18]
    simp only [nz_0, nz_1, nz_2, nz_3, nz_4, nz_5, nz_6, nz_7, nz_8, nz_9, nz_10, nz_11, nz_12, nz_13, nz_14, nz_15, nz_16, nz_17, nz_18, nz_19, nz_20, nz_21, nz_22, nz_23, nz_24, nz_25, nz_26, nz_27, nz_28, nz_29, nz_30, nz_31, nz_32, nz_33, nz_34, nz_35, nz_36, nz_37, nz_38, nz_39, nz_40, nz_41, nz_42, nz_43, nz_44, nz_45, nz_46, nz_47, nz_48, nz_49, nz_50, nz_51, nz_63, nz_64, nz_66, nz_127, nz_128, nz_246, nz_247, nz_248, nz_250, nz_251, nz_252, nz_254, nz_255, nz_256, nz_400, nz_2500]
    rw [if_neg (by decide), a3.s (by decide), zu_e, if_pos rfl]
    refine ⟨M1, false, rfl, ?_, ⟨fun q => (by cases q), ?_⟩, fun q => by cases q⟩
    · refine (zo_B.f (k := 27) (x := nI 0) (by omega)).tr ?_
      intro s i k x y
      exact a3 s i k (by omega)
    · rintro ⟨B, hB, -⟩
      exact absurd hB.1.2.1.1 hn
