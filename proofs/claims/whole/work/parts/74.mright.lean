/-! the reference: rounds of THE FLOW -/
def zo_B (M M' : zm_M) : Prop := ∀ s i k, ¬ (s = 35 ∧ (k = 20 ∨ k = 21 ∨ k = 27 ∨ k = 28)) → ¬ (47 ≤ s ∧ s ≤ 53) → M' s i k = M s i k
theorem zo_B.rf {M : zm_M} : zo_B M M := fun _ _ _ _ _ => rfl
theorem zo_B.tr {M M1 M2 : zm_M} (h : zo_B M M1) (h2 : zo_B M1 M2) : zo_B M M2 := fun s i k a b => (h2 s i k a b).trans (h s i k a b)
theorem zo_A.B {M M' : zm_M} (h : zo_A M M') : zo_B M M' := fun s i k a b => h s i k (by omega) (by omega)
theorem zo_M.B {M M' : zm_M} (h : zo_M M M') : zo_B M M' := fun s i k a b => h s i k (by omega) (by omega) (by omega)
theorem zo_B.P {M M' : zm_M} {P : sp_P} (h : zo_B M M') (hP : rm_P P M) : rm_P P M' := hP.kept (fun s h1 h2 => by funext i k; exact h s i k (by omega) (by omega)) (fun k hk => h 35 0 k (by omega) (by omega))
theorem zo_B.f {M : zm_M} {k : Nat} {x : Int32} (hk : k = 27 ∨ k = 28) : zo_B M (zm_up M 35 0 k x) := by
  intro s i j a b
  by_cases e : s = 35
  · rw [zu_k (by omega)]
  · rw [zu_s e]
theorem zo_M.S {M M' : zm_M} {A : af_A} (h : zo_M M M') (hS : rm_S M A) : rm_S M' A := by
  intro p hp
  obtain ⟨h1, h2⟩ := hS p hp
  refine ⟨by rw [h.s (by decide) (by decide) (by decide)]; exact h1, ?_⟩
  intro F hF
  have := h2 F hF
  unfold rm_G at this ⊢
  rw [h.s (s := 52) (by decide) (by decide) (by decide), h.s (s := 53) (by decide) (by decide) (by decide), h.s (s := 51) (by decide) (by decide) (by decide), h.s (s := 50) (by decide) (by decide) (by decide)]
  exact this
theorem rm_S.f {M : zm_M} {A : af_A} {k : Nat} {x : Int32} (hS : rm_S M A) : rm_S (zm_up M 35 0 k x) A := by
  intro p hp
  obtain ⟨h1, h2⟩ := hS p hp
  refine ⟨by rw [zu_s (by decide)]; exact h1, ?_⟩
  intro F hF
  have := h2 F hF
  unfold rm_G at this ⊢
  rw [zu_s (s' := 52) (by decide), zu_s (s' := 53) (by decide), zu_s (s' := 51) (by decide), zu_s (s' := 50) (by decide)]
  exact this
theorem so_gh_stop {M : zm_M} {n h m : Nat} {v1 : Int32} (h0 : M 35 0 27 = nI 0) (hm : M 35 0 6 = nI m) (hh : h < 2 ^ 31) (hm4 : m < 2 ^ 31) : rr_mo_goHandled (n + 1) 2 [some (.inr (35, 0)), some (.inl v1), some (.inl (nI h))] [] M = some M := by
  rw [eq_mo_goHandled_2, hm, h0]
  simp only [nz_0, nz_1, nz_2, nz_3, nz_4, nz_5, nz_6, nz_7, nz_8, nz_9, nz_10, nz_11, nz_12, nz_13, nz_14, nz_15, nz_16, nz_17, nz_18, nz_19, nz_20, nz_21, nz_22, nz_23, nz_24, nz_25, nz_26, nz_27, nz_28, nz_29, nz_30, nz_31, nz_32, nz_33, nz_34, nz_35, nz_36, nz_37, nz_38, nz_39, nz_40, nz_41, nz_42, nz_43, nz_44, nz_45, nz_46, nz_47, nz_48, nz_49, nz_50, nz_51, nz_63, nz_64, nz_66, nz_127, nz_128, nz_246, nz_247, nz_248, nz_250, nz_251, nz_252, nz_254, nz_255, nz_256, nz_400, nz_2500]
  by_cases e : h < m
  · rw [if_pos (ni_lt e hh hm4), if_pos trivial]
  · rw [if_neg (ni_nl (by omega) hh hm4)]
theorem sm_gh_lp {P : sp_P} (hwP : wf_P P) {p : Nat} (hp : p < pg_n P) : ∀ (k h n : Nat) (M : zm_M) (A : af_A) (c : Bool), h + k = (pg_han P).length → k < n → rm_P P M → rm_S M A → af_ok P A → (A p).isSome = true → M 35 0 27 = nI 1 → M 35 0 28 = bI c → ∃ M', rr_mo_goHandled n 2 [some (.inr (35, 0)), some (.inl (nI p)), some (.inl (nI h))] [] M = some M' ∧ zo_B M M' ∧ M' 35 0 27 = bI (af_hs P p k h A).isSome ∧ ∀ A', af_hs P p k h A = some A' → rm_S M' A' ∧ M' 35 0 28 = bI (c || af_ch A A') ∧ af_ok P A' ∧ af_le P A A' := by
  have h4 : (pg_han P).length ≤ 4 := hwP.2.2.2.2.2.2.2.1
  have h50 := hwP.n
  intro k
  induction k with
  | zero =>
    intro h n M A c hk hn hP hS hA hsm h27 h28
    obtain ⟨n, rfl⟩ : ∃ m, n = m + 1 := ⟨n - 1, by omega⟩
    rw [eq_mo_goHandled_2, hP.h.1, if_neg (ni_nl (by omega) (by omega) (by omega))]
    refine ⟨M, rfl, zo_B.rf, h27, ?_⟩
    intro A' hA'
    cases hA'
    have hch : af_ch A A = false := by
      unfold af_ch
      rw [List.any_eq_false]
      intro r _
      simp
    exact ⟨hS, by rw [hch, Bool.or_false]; exact h28, hA, af_le.rf A⟩
  | succ k ih =>
    intro h n M A c hk hn hP hS hA hsm h27 h28
    obtain ⟨n, rfl⟩ : ∃ m, n = m + 1 := ⟨n - 1, by omega⟩
    have hH := wf_hdl hwP (show h < _ by omega)
    unfold wf_H at hH
    obtain ⟨a1, a2, a3, a4⟩ := hP.h.2 h (by omega)
    rw [eq_mo_goHandled_2, hP.h.1, if_pos (ni_lt (by omega) (by omega) (by omega)), h27]
    simp only [nz_0, nz_1, nz_2, nz_3, nz_4, nz_5, nz_6, nz_7, nz_8, nz_9, nz_10, nz_11, nz_12, nz_13, nz_14, nz_15, nz_16, nz_17, nz_18, nz_19, nz_20, nz_21, nz_22, nz_23, nz_24, nz_25, nz_26, nz_27, nz_28, nz_29, nz_30, nz_31, nz_32, nz_33, nz_34, nz_35, nz_36, nz_37, nz_38, nz_39, nz_40, nz_41, nz_42, nz_43, nz_44, nz_45, nz_46, nz_47, nz_48, nz_49, nz_50, nz_51, nz_63, nz_64, nz_66, nz_127, nz_128, nz_246, nz_247, nz_248, nz_250, nz_251, nz_252, nz_254, nz_255, nz_256, nz_400, nz_2500, nI_add]
    rw [if_neg (by decide), nI_clamp (by omega), a1, a2]
    simp only [if_neg (ni_in (show h < 4 by omega) (show h < 2 ^ 31 by omega))]
    unfold af_hs
    by_cases e : (pg_hd P h).1 ≤ p ∧ p < (pg_hd P h).2.1
    · obtain ⟨F, hF⟩ := Option.isSome_iff_exists.mp hsm
      have hF8 := (hA p F hF).2
      rw [if_neg (ni_nl e.1 (by omega) (by omega)), if_pos (ni_lt e.2 (by omega) (by omega)), if_pos e, hF]
      dsimp only
      obtain ⟨M1, t1, t2, t3⟩ := sm_fetch (show p < 50 by omega) ((hS p (by omega)).2 F hF) hF8.2
      rw [t1]
      simp only [Option.bind_some]
      have hP1 := t2.P hP
      rw [if_neg (by decide), (hP1.h.2 h (by omega)).2.2.1, (hP1.h.2 h (by omega)).2.2.2, pk_mul, nI_add]
      have z2 : zo_M M1 (zm_up (zm_up M1 35 0 20 (nI 1)) 48 0 0 (nI (16 * (pg_hd P h).2.2.2 + 7))) := zo_M.d.tr zo_M.t
      have hF2 : rm_F (zm_up (zm_up M1 35 0 20 (nI 1)) 48 0 0 (nI (16 * (pg_hd P h).2.2.2 + 7))) (af_hf P h F) := by
        refine ⟨⟨t3.1.1, ?_, ?_, ?_, ?_⟩, (af_hf_ok hwP hF8).2⟩
        · intro j hj
          rw [zu_s (by decide), zu_s (by decide)]
          exact t3.1.2.1 j hj
        · rw [zu_s (by decide), zu_e]
          rfl
        · intro j hj
          have : j = 0 := by
            have : j < 1 := hj
            omega
          subst this
          rw [zu_e]
          rfl
        · rw [zu_s (by decide), zu_k (by decide)]
          exact t3.1.2.2.2.2
      have z3 := t2.tr z2
      have hP2 := z3.P hP
      obtain ⟨M2, u1, u2, u3, u4⟩ := sm_arrive (q := (pg_hd P h).2.2.1) (c := c) hwP hP2 (z3.S hS) hA hF2 (af_hf_ok hwP hF8) (by omega) (by rw [z3 35 0 28 (by omega) (by decide) (by decide)]; exact h28) (by rw [z3 35 0 27 (by omega) (by decide) (by decide)]; exact h27)
      have hclamp : (nI 0).toNatClampNeg = 0 := nI_clamp (by omega)
      rw [hclamp, u1]
      simp only [Option.bind_some]
      have z4 := z3.B.tr u2.B
      cases hb : af_arr P A (pg_hd P h).2.2.1 (af_hf P h F) with
      | none =>
        rw [hb] at u3
        obtain ⟨n, rfl⟩ : ∃ m, n = m + 1 := ⟨n - 1, by omega⟩
        rw [so_gh_stop u3 (z4.P hP).h.1 (by omega) (by omega)]
        exact ⟨M2, rfl, z4, u3, fun A' q => by cases q⟩
      | some B =>
        rw [hb] at u3
        have s1 := af_arr_s hwP.1 hA (af_hf_ok hwP hF8) hb
        obtain ⟨v1, v2⟩ := u4 B hb
        obtain ⟨M3, w1, w2, w3, w4⟩ := ih (h + 1) n M2 B (c || af_ch A B) (by omega) (by omega) (z4.P hP) v1 s1.1 (s1.2.1.sm hsm) u3 v2
        refine ⟨M3, w1, z4.tr w2, w3, ?_⟩
        intro A' hA'
        obtain ⟨x1, x2, x3, x4⟩ := w4 A' hA'
        refine ⟨x1, ?_, x3, s1.2.1.tr hwP.1 hA s1.1 x4⟩
        rw [x2, Bool.or_assoc, af_ch_tr hwP.1 hA s1.1 s1.2.1 x4]
    · rw [if_neg e]
      by_cases e1 : p < (pg_hd P h).1
      · rw [if_pos (ni_lt e1 (by omega) (by omega))]
        exact ih (h + 1) n M A c (by omega) (by omega) hP hS hA hsm h27 h28
      · rw [if_neg (ni_nl (by omega) (by omega) (by omega)), if_neg (ni_nl (by omega) (by omega) (by omega))]
        exact ih (h + 1) n M A c (by omega) (by omega) hP hS hA hsm h27 h28
theorem sm_gh {P : sp_P} {M : zm_M} {A : af_A} {c : Bool} {p : Nat} (hwP : wf_P P) (hp : p < pg_n P) (hP : rm_P P M) (hS : rm_S M A) (hA : af_ok P A) (hsm : (A p).isSome = true) (h27 : M 35 0 27 = nI 1) (h28 : M 35 0 28 = bI c) : ∃ M', fn_mo_goHandled [.inr (35, 0), .inl (nI p)] M = some M' ∧ zo_B M M' ∧ M' 35 0 27 = bI (af_hs P p (pg_han P).length 0 A).isSome ∧ ∀ A', af_hs P p (pg_han P).length 0 A = some A' → rm_S M' A' ∧ M' 35 0 28 = bI (c || af_ch A A') ∧ af_ok P A' ∧ af_le P A A' := by
  have h4 : (pg_han P).length ≤ 4 := hwP.2.2.2.2.2.2.2.1
  rw [eq_mo_goHandled, show (1073741824 : Nat) = 1073741823 + 1 from rfl, eq_mo_goHandled_0, nz_0]
  exact sm_gh_lp hwP hp _ 0 _ M A c (by omega) (by omega) hP hS hA hsm h27 h28
/-- once it is WRONG -/
theorem so_stop {M : zm_M} {n p m : Nat} (h0 : M 35 0 27 = nI 0) (hm : M 35 0 5 = nI m) (hp : p < 2 ^ 31) (hm2 : m < 2 ^ 31) : rr_mo_isRight (n + 1 + 1) 81 [some (.inr (35, 0)), some (.inl (nI p))] [] M = some (nI 0, M) := by
  have fin : rr_mo_isRight (n + 1 + 1) 199 [some (.inr (35, 0)), some (.inl (nI p))] [] M = some (nI 0, M) := by
    have f2 : rr_mo_isRight (n + 1) 202 [some (.inr (35, 0)), some (.inl (nI p))] [] M = some (nI 0, M) := by
      rw [eq_mo_isRight_202, eq_mo_isRight_204, hm, h0]
      simp only [nz_0, nz_1, nz_2, nz_3, nz_4, nz_5, nz_6, nz_7, nz_8, nz_9, nz_10, nz_11, nz_12, nz_13, nz_14, nz_15, nz_16, nz_17, nz_18, nz_19, nz_20, nz_21, nz_22, nz_23, nz_24, nz_25, nz_26, nz_27, nz_28, nz_29, nz_30, nz_31, nz_32, nz_33, nz_34, nz_35, nz_36, nz_37, nz_38, nz_39, nz_40, nz_41, nz_42, nz_43, nz_44, nz_45, nz_46, nz_47, nz_48, nz_49, nz_50, nz_51, nz_63, nz_64, nz_66, nz_127, nz_128, nz_246, nz_247, nz_248, nz_250, nz_251, nz_252, nz_254, nz_255, nz_256, nz_400, nz_2500, eq_mo_isRight_264, h0, true_or, if_true]
      rw [ite_self]
    rw [eq_mo_isRight_199, eq_mo_isRight_60, h0]
    simp only [nz_0, nz_1, nz_2, nz_3, nz_4, nz_5, nz_6, nz_7, nz_8, nz_9, nz_10, nz_11, nz_12, nz_13, nz_14, nz_15, nz_16, nz_17, nz_18, nz_19, nz_20, nz_21, nz_22, nz_23, nz_24, nz_25, nz_26, nz_27, nz_28, nz_29, nz_30, nz_31, nz_32, nz_33, nz_34, nz_35, nz_36, nz_37, nz_38, nz_39, nz_40, nz_41, nz_42, nz_43, nz_44, nz_45, nz_46, nz_47, nz_48, nz_49, nz_50, nz_51, nz_63, nz_64, nz_66, nz_127, nz_128, nz_246, nz_247, nz_248, nz_250, nz_251, nz_252, nz_254, nz_255, nz_256, nz_400, nz_2500]
    rw [if_pos trivial, f2, ite_self]
  rw [eq_mo_isRight_81, hm, h0]
  simp only [nz_0, nz_1, nz_2, nz_3, nz_4, nz_5, nz_6, nz_7, nz_8, nz_9, nz_10, nz_11, nz_12, nz_13, nz_14, nz_15, nz_16, nz_17, nz_18, nz_19, nz_20, nz_21, nz_22, nz_23, nz_24, nz_25, nz_26, nz_27, nz_28, nz_29, nz_30, nz_31, nz_32, nz_33, nz_34, nz_35, nz_36, nz_37, nz_38, nz_39, nz_40, nz_41, nz_42, nz_43, nz_44, nz_45, nz_46, nz_47, nz_48, nz_49, nz_50, nz_51, nz_63, nz_64, nz_66, nz_127, nz_128, nz_246, nz_247, nz_248, nz_250, nz_251, nz_252, nz_254, nz_255, nz_256, nz_400, nz_2500]
  rw [if_pos trivial, fin, ite_self]
theorem so_jmp {o : Nat} (h : o < 2 ^ 31) (M : zm_M) : fn_mo_in [.inl (nI o), .inl (nI 31), .inl (nI 34)] M = some (bI (sp_jmp o), M) := so_in h (by omega) (by omega) M
/-- from the end of one PLACE on -/
theorem sm_rd_tail {P : sp_P} (hwP : wf_P P) {p n : Nat} (hp : p < pg_n P) {M : zm_M} {A : af_A} {c : Bool} (hP : rm_P P M) (hS : rm_S M A) (hA : af_ok P A) (hsm : (A p).isSome = true) (h27 : M 35 0 27 = nI 1) (h28 : M 35 0 28 = bI c) : ∃ M', rr_mo_isRight (n + 1) 181 [some (.inr (35, 0)), some (.inl (nI p))] [] M = rr_mo_isRight n 81 [some (.inr (35, 0)), some (.inl (nI (p + 1)))] [] M' ∧ zo_B M M' ∧ M' 35 0 27 = bI (af_hs P p (pg_han P).length 0 A).isSome ∧ ∀ A', af_hs P p (pg_han P).length 0 A = some A' → rm_S M' A' ∧ M' 35 0 28 = bI (c || af_ch A A') ∧ af_ok P A' ∧ af_le P A A' := by
  obtain ⟨M1, a1, a2, a3, a4⟩ := sm_gh hwP hp hP hS hA hsm h27 h28
  rw [eq_mo_isRight_181, h27]
  simp only [nz_0, nz_1, nz_2, nz_3, nz_4, nz_5, nz_6, nz_7, nz_8, nz_9, nz_10, nz_11, nz_12, nz_13, nz_14, nz_15, nz_16, nz_17, nz_18, nz_19, nz_20, nz_21, nz_22, nz_23, nz_24, nz_25, nz_26, nz_27, nz_28, nz_29, nz_30, nz_31, nz_32, nz_33, nz_34, nz_35, nz_36, nz_37, nz_38, nz_39, nz_40, nz_41, nz_42, nz_43, nz_44, nz_45, nz_46, nz_47, nz_48, nz_49, nz_50, nz_51, nz_63, nz_64, nz_66, nz_127, nz_128, nz_246, nz_247, nz_248, nz_250, nz_251, nz_252, nz_254, nz_255, nz_256, nz_400, nz_2500]
  rw [if_neg (by decide), a1]
  simp only [Option.bind_some]
  rw [eq_mo_isRight_193]
  simp only [nz_0, nz_1, nz_2, nz_3, nz_4, nz_5, nz_6, nz_7, nz_8, nz_9, nz_10, nz_11, nz_12, nz_13, nz_14, nz_15, nz_16, nz_17, nz_18, nz_19, nz_20, nz_21, nz_22, nz_23, nz_24, nz_25, nz_26, nz_27, nz_28, nz_29, nz_30, nz_31, nz_32, nz_33, nz_34, nz_35, nz_36, nz_37, nz_38, nz_39, nz_40, nz_41, nz_42, nz_43, nz_44, nz_45, nz_46, nz_47, nz_48, nz_49, nz_50, nz_51, nz_63, nz_64, nz_66, nz_127, nz_128, nz_246, nz_247, nz_248, nz_250, nz_251, nz_252, nz_254, nz_255, nz_256, nz_400, nz_2500, nI_add]
  exact ⟨M1, rfl, a2, a3, a4⟩
theorem so_tail0 {n p : Nat} {M : zm_M} (h0 : M 35 0 27 = nI 0) : rr_mo_isRight (n + 1) 155 [some (.inr (35, 0)), some (.inl (nI p))] [] M = rr_mo_isRight n 81 [some (.inr (35, 0)), some (.inl (nI (p + 1)))] [] M := by
  rw [eq_mo_isRight_155, h0]
  simp only [nz_0, nz_1, nz_2, nz_3, nz_4, nz_5, nz_6, nz_7, nz_8, nz_9, nz_10, nz_11, nz_12, nz_13, nz_14, nz_15, nz_16, nz_17, nz_18, nz_19, nz_20, nz_21, nz_22, nz_23, nz_24, nz_25, nz_26, nz_27, nz_28, nz_29, nz_30, nz_31, nz_32, nz_33, nz_34, nz_35, nz_36, nz_37, nz_38, nz_39, nz_40, nz_41, nz_42, nz_43, nz_44, nz_45, nz_46, nz_47, nz_48, nz_49, nz_50, nz_51, nz_63, nz_64, nz_66, nz_127, nz_128, nz_246, nz_247, nz_248, nz_250, nz_251, nz_252, nz_254, nz_255, nz_256, nz_400, nz_2500]
  rw [if_pos trivial, eq_mo_isRight_181, h0]
  simp only [nz_0, nz_1, nz_2, nz_3, nz_4, nz_5, nz_6, nz_7, nz_8, nz_9, nz_10, nz_11, nz_12, nz_13, nz_14, nz_15, nz_16, nz_17, nz_18, nz_19, nz_20, nz_21, nz_22, nz_23, nz_24, nz_25, nz_26, nz_27, nz_28, nz_29, nz_30, nz_31, nz_32, nz_33, nz_34, nz_35, nz_36, nz_37, nz_38, nz_39, nz_40, nz_41, nz_42, nz_43, nz_44, nz_45, nz_46, nz_47, nz_48, nz_49, nz_50, nz_51, nz_63, nz_64, nz_66, nz_127, nz_128, nz_246, nz_247, nz_248, nz_250, nz_251, nz_252, nz_254, nz_255, nz_256, nz_400, nz_2500]
  rw [if_pos trivial, eq_mo_isRight_193]
  simp only [nz_0, nz_1, nz_2, nz_3, nz_4, nz_5, nz_6, nz_7, nz_8, nz_9, nz_10, nz_11, nz_12, nz_13, nz_14, nz_15, nz_16, nz_17, nz_18, nz_19, nz_20, nz_21, nz_22, nz_23, nz_24, nz_25, nz_26, nz_27, nz_28, nz_29, nz_30, nz_31, nz_32, nz_33, nz_34, nz_35, nz_36, nz_37, nz_38, nz_39, nz_40, nz_41, nz_42, nz_43, nz_44, nz_45, nz_46, nz_47, nz_48, nz_49, nz_50, nz_51, nz_63, nz_64, nz_66, nz_127, nz_128, nz_246, nz_247, nz_248, nz_250, nz_251, nz_252, nz_254, nz_255, nz_256, nz_400, nz_2500, nI_add]
theorem so_tail1 {n p : Nat} {M : zm_M} (h0 : M 35 0 27 = nI 0) : rr_mo_isRight (n + 1) 181 [some (.inr (35, 0)), some (.inl (nI p))] [] M = rr_mo_isRight n 81 [some (.inr (35, 0)), some (.inl (nI (p + 1)))] [] M := by
  rw [eq_mo_isRight_181, h0]
  simp only [nz_0, nz_1, nz_2, nz_3, nz_4, nz_5, nz_6, nz_7, nz_8, nz_9, nz_10, nz_11, nz_12, nz_13, nz_14, nz_15, nz_16, nz_17, nz_18, nz_19, nz_20, nz_21, nz_22, nz_23, nz_24, nz_25, nz_26, nz_27, nz_28, nz_29, nz_30, nz_31, nz_32, nz_33, nz_34, nz_35, nz_36, nz_37, nz_38, nz_39, nz_40, nz_41, nz_42, nz_43, nz_44, nz_45, nz_46, nz_47, nz_48, nz_49, nz_50, nz_51, nz_63, nz_64, nz_66, nz_127, nz_128, nz_246, nz_247, nz_248, nz_250, nz_251, nz_252, nz_254, nz_255, nz_256, nz_400, nz_2500]
  rw [if_pos trivial, eq_mo_isRight_193]
  simp only [nz_0, nz_1, nz_2, nz_3, nz_4, nz_5, nz_6, nz_7, nz_8, nz_9, nz_10, nz_11, nz_12, nz_13, nz_14, nz_15, nz_16, nz_17, nz_18, nz_19, nz_20, nz_21, nz_22, nz_23, nz_24, nz_25, nz_26, nz_27, nz_28, nz_29, nz_30, nz_31, nz_32, nz_33, nz_34, nz_35, nz_36, nz_37, nz_38, nz_39, nz_40, nz_41, nz_42, nz_43, nz_44, nz_45, nz_46, nz_47, nz_48, nz_49, nz_50, nz_51, nz_63, nz_64, nz_66, nz_127, nz_128, nz_246, nz_247, nz_248, nz_250, nz_251, nz_252, nz_254, nz_255, nz_256, nz_400, nz_2500, nI_add]
theorem af_hs_le {P : sp_P} (hP : wf_P P) {p : Nat} : ∀ (k h : Nat) (A A' : af_A), af_ok P A → af_hs P p k h A = some A' → af_le P A A' := by
  intro k
  induction k with
  | zero =>
    intro h A A' hA he
    cases he
    exact af_le.rf A
  | succ k ih =>
    intro h A A' hA he
    unfold af_hs at he
    split at he
    · cases hF : A p with
      | none => rw [hF] at he; cases he
      | some F =>
        rw [hF] at he
        dsimp only at he
        rw [Option.bind_eq_some_iff] at he
        obtain ⟨B, b1, b2⟩ := he
        have s1 := af_arr_s hP.1 hA (af_hf_ok hP (h := h) (hA p F hF).2) b1
        exact s1.2.1.tr hP.1 hA s1.1 (ih (h + 1) B A' s1.1 b2)
    · exact ih (h + 1) A A' hA he
/-- one PLACE -/
theorem sm_pr {P : sp_P} (hwP : wf_P P) {p n : Nat} (hp : p < pg_n P) {M : zm_M} {A : af_A} {c : Bool} (hP : rm_P P M) (hS : rm_S M A) (hA : af_ok P A) (hsm : (A p).isSome = true) (h27 : M 35 0 27 = nI 1) (h28 : M 35 0 28 = bI c) : ∃ M', rr_mo_isRight (n + 1) 81 [some (.inr (35, 0)), some (.inl (nI p))] [] M = rr_mo_isRight n 81 [some (.inr (35, 0)), some (.inl (nI (p + 1)))] [] M' ∧ zo_B M M' ∧ M' 35 0 27 = bI (ar_pr P p A).isSome ∧ ∀ A', ar_pr P p A = some A' → rm_S M' A' ∧ M' 35 0 28 = bI (c || af_ch A A') := by
  have h50 := hwP.n
  have hI := wf_at hwP hp
  have h40 : pg_op P p < 40 := hI.1
  obtain ⟨s1, s2⟩ := hS p (by omega)
  obtain ⟨F, hF⟩ := Option.isSome_iff_exists.mp hsm
  have hF8 := (hA p F hF).2
  obtain ⟨M1, t1, t2, t3⟩ := sm_fetch (show p < 50 by omega) (s2 F hF) hF8.2
  have hP1 := t2.P hP
  obtain ⟨M2, u1, u2, u3⟩ := sm_leave hwP hP1 t3 hF8.1.1 hp
  have z2 := t2.tr u2
  have hP2 := z2.P hP
  rw [eq_mo_isRight_81, hP.n, h27]
  simp only [nz_0, nz_1, nz_2, nz_3, nz_4, nz_5, nz_6, nz_7, nz_8, nz_9, nz_10, nz_11, nz_12, nz_13, nz_14, nz_15, nz_16, nz_17, nz_18, nz_19, nz_20, nz_21, nz_22, nz_23, nz_24, nz_25, nz_26, nz_27, nz_28, nz_29, nz_30, nz_31, nz_32, nz_33, nz_34, nz_35, nz_36, nz_37, nz_38, nz_39, nz_40, nz_41, nz_42, nz_43, nz_44, nz_45, nz_46, nz_47, nz_48, nz_49, nz_50, nz_51, nz_63, nz_64, nz_66, nz_127, nz_128, nz_246, nz_247, nz_248, nz_250, nz_251, nz_252, nz_254, nz_255, nz_256, nz_400, nz_2500]
  rw [if_pos (ni_lt hp (by omega) (by omega)), if_neg (by decide), nI_clamp (by omega)]
  simp only [if_neg (ni_in (show p < 50 by omega) (show p < 2 ^ 31 by omega))]
  rw [s1, hF, if_neg (by rw [Option.isSome_some]; decide), t1]
  simp only [Option.bind_some]
  rw [u1]
  simp only [Option.bind_some]
  rw [if_pos (bI_01 _), (hP2.i p hp).1]
  unfold ar_pr af_lv
  rw [hF, Option.bind_some]
  cases hs : sp_stp P p F with
  | none =>
    rw [if_pos (by decide), show bI (none : Option sp_F).isSome = nI 0 from rfl, so_tail0 zu_e]
    exact ⟨_, rfl, z2.B.tr (zo_B.f (by omega)), zu_e, fun A' q => by cases q⟩
  | some F' =>
    have o8 := ok_8_stp hwP hp hF8 hs
    rw [if_neg (by rw [Option.isSome_some]; decide), so_jmp (by omega), show bI (some F').isSome = nI 1 from rfl]
    simp only [Option.bind_some, bI_0]
    have z3 : zo_B M (zm_up M2 35 0 27 (nI 1)) := z2.B.tr (zo_B.f (by omega))
    have hP3 := z3.P hP
    have hS3 : rm_S (zm_up M2 35 0 27 (nI 1)) A := (z2.S hS).f
    have h27' : zm_up M2 35 0 27 (nI 1) 35 0 27 = nI 1 := zu_e
    have h28' : zm_up M2 35 0 27 (nI 1) 35 0 28 = bI c := by rw [zu_k (by decide), z2 35 0 28 (by omega) (by decide) (by decide)]; exact h28
    have zA : zo_A M2 (zm_up M2 35 0 27 (nI 1)) := (zo_q.up (q := 0) (by omega)).A
    -- the last coming, then the HANDLERS
    have last : ∀ (M3 : zm_M) (B : af_A) (c3 : Bool), rm_P P M3 → rm_S M3 B → af_ok P B → af_le P A B → (pg_op P p ≠ 20 → rm_F M3 F') → M3 35 0 27 = nI 1 → M3 35 0 28 = bI c3 → ∃ M', rr_mo_isRight (n + 1) 155 [some (.inr (35, 0)), some (.inl (nI p))] [] M3 = rr_mo_isRight n 81 [some (.inr (35, 0)), some (.inl (nI (p + 1)))] [] M' ∧ zo_B M3 M' ∧ M' 35 0 27 = bI ((if sp_end (pg_op P p) then some B else af_arr P B (p + 1) F').bind (af_hs P p (pg_han P).length 0)).isSome ∧ ∀ A', (if sp_end (pg_op P p) then some B else af_arr P B (p + 1) F').bind (af_hs P p (pg_han P).length 0) = some A' → rm_S M' A' ∧ M' 35 0 28 = bI (c3 || af_ch B A') := by
      intro M3 B c3 hP3 hS3 hB hAB hF3 g27 g28
      rw [eq_mo_isRight_155, g27]
      simp only [nz_0, nz_1, nz_2, nz_3, nz_4, nz_5, nz_6, nz_7, nz_8, nz_9, nz_10, nz_11, nz_12, nz_13, nz_14, nz_15, nz_16, nz_17, nz_18, nz_19, nz_20, nz_21, nz_22, nz_23, nz_24, nz_25, nz_26, nz_27, nz_28, nz_29, nz_30, nz_31, nz_32, nz_33, nz_34, nz_35, nz_36, nz_37, nz_38, nz_39, nz_40, nz_41, nz_42, nz_43, nz_44, nz_45, nz_46, nz_47, nz_48, nz_49, nz_50, nz_51, nz_63, nz_64, nz_66, nz_127, nz_128, nz_246, nz_247, nz_248, nz_250, nz_251, nz_252, nz_254, nz_255, nz_256, nz_400, nz_2500, nI_add]
      rw [if_neg (by decide), nI_clamp (by omega), if_neg (ni_in (show p < 50 by omega) (by omega)), (hP3.i p hp).1, so_isEnd (by omega)]
      simp only [Option.bind_some, bI_0]
      rcases Bool.eq_false_or_eq_true (sp_end (pg_op P p)) with he | he
      · rw [if_neg (by rw [he]; decide), if_pos he, Option.bind_some]
        obtain ⟨M4, w1, w2, w3, w4⟩ := sm_rd_tail (n := n) hwP hp hP3 hS3 hB (hAB.sm hsm) g27 g28
        exact ⟨M4, w1, w2, w3, fun A' q => ⟨(w4 A' q).1, (w4 A' q).2.1⟩⟩
      · rw [if_pos he, if_neg (by rw [he]; decide)]
        have hne : pg_op P p ≠ 20 := by
          intro q
          rw [q] at he
          cases he
        obtain ⟨M4, v1, v2, v3, v4⟩ := sm_arrive (q := p + 1) hwP hP3 hS3 hB (hF3 hne) o8 (by omega) g28 g27
        rw [v1]
        simp only [Option.bind_some]
        cases hb : af_arr P B (p + 1) F' with
        | none =>
          rw [hb] at v3
          rw [so_tail1 v3]
          exact ⟨M4, rfl, v2.B, v3, fun A' q => by cases q⟩
        | some C =>
          rw [hb] at v3
          have q1 := af_arr_s hwP.1 hB o8 hb
          obtain ⟨x1, x2⟩ := v4 C hb
          obtain ⟨M5, w1, w2, w3, w4⟩ := sm_rd_tail (n := n) hwP hp (v2.P hP3) x1 q1.1 (q1.2.1.sm (hAB.sm hsm)) v3 x2
          refine ⟨M5, w1, v2.B.tr w2, w3, ?_⟩
          intro A' q
          obtain ⟨y1, y2, y3, y4⟩ := w4 A' q
          refine ⟨y1, ?_⟩
          rw [y2, Bool.or_assoc, af_ch_tr hwP.1 hB q1.1 q1.2.1 y4]
    rcases Bool.eq_false_or_eq_true (sp_jmp (pg_op P p)) with hj | hj
    · rw [if_neg (by rw [hj]; decide), if_pos hj, zu_s (by decide), (hP2.i p hp).2.2]
      have hj' := hj
      unfold sp_jmp at hj'
      simp only [Bool.and_eq_true, decide_eq_true_eq] at hj'
      have hb50 : pg_b P p < 50 := hI.2.2.1 hj'.1 hj'.2
      have hne : pg_op P p ≠ 20 := by omega
      have hF3 := zA.F (u3 hne F' hs).1
      obtain ⟨M4, v1, v2, v3, v4⟩ := sm_arrive (q := pg_b P p) hwP hP3 hS3 hA hF3 o8 (by omega) h28' h27'
      rw [v1]
      simp only [Option.bind_some]
      cases hb : af_arr P A (pg_b P p) F' with
      | none =>
        rw [hb] at v3
        rw [so_tail0 v3]
        exact ⟨M4, rfl, z3.tr v2.B, v3, fun A' q => by cases q⟩
      | some B =>
        rw [hb] at v3
        have q1 := af_arr_s hwP.1 hA o8 hb
        obtain ⟨x1, x2⟩ := v4 B hb
        obtain ⟨M5, w1, w2, w3, w4⟩ := last M4 B (c || af_ch A B) (v2.P hP3) x1 q1.1 q1.2.1 (fun _ => v2.F hF3) v3 x2
        rw [Option.bind_some]
        refine ⟨M5, w1, (z3.tr v2.B).tr w2, w3, ?_⟩
        intro A' q
        obtain ⟨y1, y2⟩ := w4 A' q
        refine ⟨y1, ?_⟩
        have hle : af_le P B A' ∧ af_ok P B := by
          refine ⟨?_, q1.1⟩
          rw [Option.bind_eq_some_iff] at q
          obtain ⟨C, c1, c2⟩ := q
          have k1 : af_ok P C ∧ af_le P B C := by
            split at c1
            · cases c1
              exact ⟨q1.1, af_le.rf _⟩
            · have := af_arr_s hwP.1 q1.1 o8 c1
              exact ⟨this.1, this.2.1⟩
          have k2 := af_hs_le hwP (pg_han P).length 0 C A' k1.1 c2
          exact k1.2.tr hwP.1 q1.1 k1.1 k2
        rw [y2, Bool.or_assoc, af_ch_tr hwP.1 hA q1.1 q1.2.1 hle.1]
    · rw [if_pos hj, if_neg (show ¬ sp_jmp (pg_op P p) = true by rw [hj]; decide), Option.bind_some]
      obtain ⟨M5, w1, w2, w3, w4⟩ := last _ A c hP3 hS3 hA (af_le.rf A) (fun hne => zA.F (u3 hne F' hs).1) h27' h28'
      exact ⟨M5, w1, z3.tr w2, w3, w4⟩
