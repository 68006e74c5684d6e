/-! the class: rounds of THE FLOW -/
theorem rc_S.clr {M : zm_M} {A : af_A} {W : Nat → Bool} {p : Nat} (h : rc_S M A W) : rc_S (zm_up M 22 0 p (nI 0)) A (fun r => if r = p then false else W r) := by
  intro r hr
  obtain ⟨h1, h2, h3⟩ := h r hr
  refine ⟨?_, ?_, ?_⟩
  · rw [zu_s (by decide)]; exact h1
  · by_cases e : r = p
    · subst e
      rw [zu_e]
      simp [bI]
    · rw [zu_k e, h2]
      simp [e]
  · intro F hF
    exact (h3 F hF).kept (by rw [zu_s (by decide)]) (by rw [zu_s (by decide)]) (by rw [zu_s (by decide)])
theorem zo_S.w {M : zm_M} {p : Nat} {x : Int32} : zo_S M (zm_up M 22 0 p x) := by
  intro s i k a
  rw [zu_s (by omega)]
theorem sc_rd {P : sp_P} (hwP : wf_P P) {r : Nat} (hr : r < 2 ^ 30) : ∀ (k p n : Nat) (M : zm_M) (A : af_A) (W : Nat → Bool) (m : Bool), p + k = pg_n P → k < n → rc_P P M → rc_S M A W → ac_inv P A W → (ac_rd P k p A W m = none → ∃ M', rr_fl_isRight n 44 [some (.inr (18, 0)), some (.inl (bI m)), some (.inl (nI r)), some (.inl (nI p))] [] M = some (nI 0, M') ∧ zo_S M M') ∧ ∀ B V m', ac_rd P k p A W m = some (B, V, m') → ∃ M' n' o, rr_fl_isRight n 44 [some (.inr (18, 0)), some (.inl (bI m)), some (.inl (nI r)), some (.inl (nI p))] [] M = rr_fl_isRight n' 30 [some (.inr (18, 0)), some (.inl (bI m')), some (.inl (nI (r + 1))), o] [] M' ∧ n ≤ n' + k + 1 ∧ zo_S M M' ∧ rc_S M' B V := by
  have h50 := hwP.n
  intro k
  induction k with
  | zero =>
    intro p n M A W m hk hn hP hS hI
    obtain ⟨n, rfl⟩ : ∃ m, n = m + 1 := ⟨n - 1, by omega⟩
    rw [eq_fl_isRight_44, hP.n, if_neg (ni_nl (by omega) (by omega) (by omega))]
    simp only [nz_1, nI_add]
    refine ⟨fun q => (by cases q), ?_⟩
    intro B V m' q
    cases q
    exact ⟨M, n, _, rfl, by omega, zo_S.rf, hS⟩
  | succ k ih =>
    intro p n M A W m hk hn hP hS hI
    obtain ⟨n, rfl⟩ : ∃ m, n = m + 1 := ⟨n - 1, by omega⟩
    obtain ⟨s1, s2, s3⟩ := hS p (by omega)
    rw [eq_fl_isRight_44, hP.n, if_pos (ni_lt (by omega) (by omega) (by omega))]
    simp only [nz_0, nz_1, nz_2, nz_3, nz_4, nz_5, nz_6, nz_7, nz_8, nz_9, nz_10, nz_11, nz_12, nz_13, nz_14, nz_15, nz_16, nz_17, nz_18, nz_19, nz_20, nz_21, nz_22, nz_23, nz_24, nz_25, nz_26, nz_27, nz_28, nz_29, nz_30, nz_31, nz_32, nz_33, nz_34, nz_35, nz_36, nz_37, nz_38, nz_39, nz_40, nz_41, nz_42, nz_43, nz_44, nz_45, nz_46, nz_47, nz_48, nz_49, nz_50, nz_51, nz_63, nz_64, nz_66, nz_127, nz_128, nz_246, nz_247, nz_248, nz_250, nz_251, nz_252, nz_254, nz_255, nz_256, nz_400, nz_2500, nI_add]
    rw [nI_clamp (by omega)]
    simp only [if_neg (ni_in (show p < 50 by omega) (show p < 2 ^ 31 by omega))]
    rw [s2]
    unfold ac_rd
    by_cases hW : W p = true
    · rw [if_neg (show ¬ bI (W p) = nI 0 by rw [hW]; decide)]
      simp only [if_pos hW]
      rw [show nI 0 &&& nI 1 = nI 0 by decide]
      have hsm := hI.2.2.2 p hW
      obtain ⟨M1, a1, a2, a3⟩ := sc_hs hwP (by omega) (zo_S.w.P hP) (hS.clr (p := p)) hI.1.1 hsm
      rw [a1]
      simp only [Option.bind_some, bI_0]
      have hP1 := (zo_S.w.tr a2).P hP
      unfold ac_pr
      cases c1 : af_hs P p (pg_han P).length 0 A with
      | none =>
        refine ⟨fun _ => ⟨M1, rfl, zo_S.w.tr a2⟩, fun B V m' q => by cases q⟩
      | some C =>
        obtain ⟨b1, b2, b3⟩ := a3 C c1
        rw [if_neg (by rw [Option.isSome_some]; decide)]
        obtain ⟨M2, d1, d2, d3⟩ := sc_lv hwP (show p < pg_n P by omega) hP1 b1 b2 (b3.sm hsm)
        rw [d1]
        simp only [Option.bind_some, bI_0]
        cases c2 : af_lv P p C with
        | none =>
          refine ⟨fun _ => ⟨M2, rfl, (zo_S.w.tr a2).tr d2⟩, fun B V m' q => by cases q⟩
        | some D =>
          obtain ⟨e1, e2, e3⟩ := d3 D c2
          rw [if_neg (by rw [Option.isSome_some]; decide)]
          rw [af_w_tr hwP.1 hI.1.1 b2 b3 e3] at e1
          have hpr : ac_pr P p A = some D := by
            unfold ac_pr
            rw [c1, Option.bind_some, c2]
          have hi2 := (ac_pr_i hwP (by omega) hI hW hpr).1
          obtain ⟨f1, f2⟩ := ih (p + 1) n M2 D _ true (by omega) (by omega) (d2.P hP1) e1 hi2
          refine ⟨fun q => ?_, fun B V m' q => ?_⟩
          · obtain ⟨M3, g1, g2⟩ := f1 q
            exact ⟨M3, g1, ((zo_S.w.tr a2).tr d2).tr g2⟩
          · obtain ⟨M3, n', o, g1, g2, g3, g4⟩ := f2 B V m' q
            exact ⟨M3, n', o, g1, by omega, ((zo_S.w.tr a2).tr d2).tr g3, g4⟩
    · have hW : W p = false := by simpa using hW
      rw [if_pos (show bI (W p) = nI 0 by rw [hW]; decide)]
      simp only [if_neg (show ¬ W p = true by rw [hW]; decide)]
      obtain ⟨f1, f2⟩ := ih (p + 1) n M A W m (by omega) (by omega) hP hS hI
      refine ⟨f1, fun B V m' q => ?_⟩
      obtain ⟨M3, n', o, g1, g2, g3, g4⟩ := f2 B V m' q
      exact ⟨M3, n', o, g1, by omega, g3, g4⟩
theorem nz_100000 : (100000 : Int32) = nI 100000 := by decide
theorem sc_go {P : sp_P} (hwP : wf_P P) : ∀ (k r n : Nat) (M : zm_M) (A : af_A) (W : Nat → Bool) (o : Option zm_V), r + k ≤ 100000 → 60 * k + 60 < n → rc_P P M → rc_S M A W → ac_inv P A W → af_ph (pg_n P) A W < k → (ac_go P k A W = none → ∃ M', rr_fl_isRight n 30 [some (.inr (18, 0)), some (.inl (nI 1)), some (.inl (nI r)), o] [] M = some (nI 0, M') ∧ zo_S M M') ∧ ∀ B, ac_go P k A W = some B → ∃ M' n' V v2 o', rr_fl_isRight n 30 [some (.inr (18, 0)), some (.inl (nI 1)), some (.inl (nI r)), o] [] M = rr_fl_isRight (n' + 1) 30 [some (.inr (18, 0)), some (.inl (nI 0)), some (.inl v2), o'] [] M' ∧ zo_S M M' ∧ rc_S M' B V := by
  have h50 := hwP.n
  intro k
  induction k with
  | zero =>
    intro r n M A W o h1 h2 hP hS hI hph
    omega
  | succ k ih =>
    intro r n M A W o h1 h2 hP hS hI hph
    obtain ⟨n, rfl⟩ : ∃ m, n = m + 1 := ⟨n - 1, by omega⟩
    rw [eq_fl_isRight_30]
    simp only [nz_0, nz_1, nz_2, nz_3, nz_4, nz_5, nz_6, nz_7, nz_8, nz_9, nz_10, nz_11, nz_12, nz_13, nz_14, nz_15, nz_16, nz_17, nz_18, nz_19, nz_20, nz_21, nz_22, nz_23, nz_24, nz_25, nz_26, nz_27, nz_28, nz_29, nz_30, nz_31, nz_32, nz_33, nz_34, nz_35, nz_36, nz_37, nz_38, nz_39, nz_40, nz_41, nz_42, nz_43, nz_44, nz_45, nz_46, nz_47, nz_48, nz_49, nz_50, nz_51, nz_63, nz_64, nz_66, nz_127, nz_128, nz_246, nz_247, nz_248, nz_250, nz_251, nz_252, nz_254, nz_255, nz_256, nz_400, nz_2500, nz_100000]
    rw [if_neg (by decide), if_pos (ni_lt (show r < 100000 by omega) (by omega) (by omega))]
    obtain ⟨f1, f2⟩ := sc_rd hwP (r := r) (by omega) (pg_n P) 0 (n + 1) M A W false (by omega) (by omega) hP hS hI
    unfold ac_go
    cases c : ac_rd P (pg_n P) 0 A W false with
    | none => exact ⟨fun _ => f1 c, fun B q => by cases q⟩
    | some s =>
      obtain ⟨B, V, m⟩ := s
      obtain ⟨j1, j2, j3, j4, j5⟩ := ac_rd_s hwP _ 0 A W false B V m (by omega) hI c
      obtain ⟨M', n', o', g1, g2, g3, g4⟩ := f2 B V m c
      have e0 : bI false = nI 0 := rfl
      rw [e0] at g1
      rw [g1, Option.bind_some]
      dsimp only
      cases m with
      | true =>
        simp only [if_true]
        have hlt : af_ph (pg_n P) B V < k := by
          rcases j4 rfl with q | q
          · cases q
          · omega
        obtain ⟨k1, k2⟩ := ih (r + 1) n' M' B V o' (by omega) (by omega) (g3.P hP) g4 j1 hlt
        refine ⟨fun q => ?_, fun C q => ?_⟩
        · obtain ⟨M3, l1, l2⟩ := k1 q
          exact ⟨M3, l1, g3.tr l2⟩
        · obtain ⟨M3, n3, V3, v3, o3, l1, l2, l3⟩ := k2 C q
          exact ⟨M3, n3, V3, v3, o3, l1, g3.tr l2, l3⟩
      | false =>
        simp only [Bool.false_eq_true, if_false]
        refine ⟨fun q => (by cases q), fun C q => ?_⟩
        cases q
        obtain ⟨n', rfl⟩ : ∃ m, n' = m + 1 := ⟨n' - 1, by omega⟩
        exact ⟨M', n', V, _, o', rfl, g3, g4⟩
/-! the beginning -/
theorem sc_beg_lp : ∀ (k p n : Nat) (M : zm_M), p + k = 50 → k < n → (∀ j, j < p → M 21 0 j = nI 0 ∧ M 22 0 j = nI 0) → ∃ M', rr_fl_begin n 2 [some (.inr (18, 0)), some (.inl (nI p))] [] M = ((fn_pr_enter [.inr (5, 0), .inr (23, 100)] M').bind fun q1 => (fn_fl_arrive [.inr (18, 0), .inl (nI 0), .inr (23, 100)] q1).bind fun q2 => some q2.2) ∧ zo_S M M' ∧ ∀ j, j < 50 → M' 21 0 j = nI 0 ∧ M' 22 0 j = nI 0 := by
  intro k
  induction k with
  | zero =>
    intro p n M hk hn hM
    obtain ⟨n, rfl⟩ : ∃ m, n = m + 1 := ⟨n - 1, by omega⟩
    rw [eq_fl_begin_2]
    simp only [nz_0, nz_1, nz_2, nz_3, nz_4, nz_5, nz_6, nz_7, nz_8, nz_9, nz_10, nz_11, nz_12, nz_13, nz_14, nz_15, nz_16, nz_17, nz_18, nz_19, nz_20, nz_21, nz_22, nz_23, nz_24, nz_25, nz_26, nz_27, nz_28, nz_29, nz_30, nz_31, nz_32, nz_33, nz_34, nz_35, nz_36, nz_37, nz_38, nz_39, nz_40, nz_41, nz_42, nz_43, nz_44, nz_45, nz_46, nz_47, nz_48, nz_49, nz_50, nz_51, nz_63, nz_64, nz_66, nz_127, nz_128, nz_246, nz_247, nz_248, nz_250, nz_251, nz_252, nz_254, nz_255, nz_256, nz_400, nz_2500]
    rw [if_neg (ni_nl (by omega) (by omega) (by omega))]
    exact ⟨M, rfl, zo_S.rf, fun j hj => hM j (by omega)⟩
  | succ k ih =>
    intro p n M hk hn hM
    obtain ⟨n, rfl⟩ : ∃ m, n = m + 1 := ⟨n - 1, by omega⟩
    rw [eq_fl_begin_2]
    simp only [nz_0, nz_1, nz_2, nz_3, nz_4, nz_5, nz_6, nz_7, nz_8, nz_9, nz_10, nz_11, nz_12, nz_13, nz_14, nz_15, nz_16, nz_17, nz_18, nz_19, nz_20, nz_21, nz_22, nz_23, nz_24, nz_25, nz_26, nz_27, nz_28, nz_29, nz_30, nz_31, nz_32, nz_33, nz_34, nz_35, nz_36, nz_37, nz_38, nz_39, nz_40, nz_41, nz_42, nz_43, nz_44, nz_45, nz_46, nz_47, nz_48, nz_49, nz_50, nz_51, nz_63, nz_64, nz_66, nz_127, nz_128, nz_246, nz_247, nz_248, nz_250, nz_251, nz_252, nz_254, nz_255, nz_256, nz_400, nz_2500, nI_add]
    rw [if_pos (ni_lt (by omega) (by omega) (by omega)), nI_clamp (by omega)]
    simp only [if_neg (ni_in (show p < 50 by omega) (show p < 2 ^ 31 by omega))]
    rw [show nI 0 &&& nI 1 = nI 0 by decide]
    obtain ⟨M', h1, h2, h3⟩ := ih (p + 1) n (zm_up (zm_up M 21 0 p (nI 0)) 22 0 p (nI 0)) (by omega) (by omega) (by
      intro j hj
      by_cases e : j = p
      · subst e
        rw [zu_e, zu_s (by decide), zu_e]
        exact ⟨rfl, rfl⟩
      · rw [zu_k e, zu_k e, zu_k e, zu_k e]
        exact hM j (by omega))
    refine ⟨M', h1, ?_, h3⟩
    refine zo_S.tr ?_ h2
    intro s i k a
    rw [zu_s (by omega), zu_s (by omega)]
theorem sc_begin {P : sp_P} {M : zm_M} (hwP : wf_P P) (hP : rc_P P M) : ∃ M', fn_fl_begin [.inr (18, 0)] M = some M' ∧ zo_S M M' ∧ (0 < pg_n P → rc_S M' (af_0 P) ac_w0) := by
  rw [eq_fl_begin, show (1073741824 : Nat) = 1073741823 + 1 from rfl, eq_fl_begin_0, nz_0]
  obtain ⟨M1, h1, h2, h3⟩ := sc_beg_lp 50 0 (1073741823 + 1) M (by omega) (by omega) (fun j hj => by omega)
  rw [h1]
  obtain ⟨M2, e1, e2, e3⟩ := sc_enter (f := 100) hwP (h2.P hP)
  rw [e1, Option.bind_some]
  have hS : rc_S M1 af_z (fun _ => false) := by
    intro p hp
    obtain ⟨a1, a2⟩ := h3 p hp
    exact ⟨a1, a2, fun F q => by cases q⟩
  obtain ⟨M3, a1, a2, a3, a4⟩ := sc_arrive (q := 0) hwP ((h2.tr e2.S).P hP) (hS.z e2) (af_z_inv P).1 e3 (fst_8 hwP) (by omega)
  rw [a1, Option.bind_some]
  refine ⟨M3, rfl, (h2.tr e2.S).tr a2, ?_⟩
  intro hn
  have := a4 (af_0 P) (af_0_s hwP hn).1
  have hw : af_w af_z (af_0 P) (fun _ => false) = ac_w0 := by
    funext r
    unfold af_w ac_w0 af_0
    by_cases e : r = 0
    · subst e
      rw [af_up_e]
      simp [af_z]
    · rw [af_up_n _ _ e]
      simp [e]
  rw [hw] at this
  exact this
