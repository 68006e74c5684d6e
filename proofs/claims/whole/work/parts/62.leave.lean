/-! the class: comings, HANDLERS, what a PLACE leaves -/
def rc_S (M : zm_M) (A : af_A) (W : Nat → Bool) : Prop := ∀ p, p < 50 → M 21 0 p = bI (A p).isSome ∧ M 22 0 p = bI (W p) ∧ ∀ F, A p = some F → rc_F M p F
/-- only THE FLOW's own things are others -/
def zo_S (M M' : zm_M) : Prop := ∀ s i k, (s < 21 ∨ 25 < s ∨ (22 < s ∧ 50 ≤ i ∧ i ≠ 100)) → M' s i k = M s i k
theorem zo_S.rf {M : zm_M} : zo_S M M := fun _ _ _ _ => rfl
theorem zo_S.tr {M M1 M2 : zm_M} (h : zo_S M M1) (h2 : zo_S M1 M2) : zo_S M M2 := fun s i k a => (h2 s i k a).trans (h s i k a)
theorem zo_p.S {p : Nat} {M M' : zm_M} (h : zo_p p M M') (hp : p < 50) : zo_S M M' := fun s i k a => h s i k (by omega) (by omega)
theorem zo_F.S {M M' : zm_M} (h : zo_F 100 M M') : zo_S M M' := fun s i k a => h s i k (by omega)
theorem zo_S.low {M M' : zm_M} (h : zo_S M M') {s : Nat} (hs : s < 21) : M' s = M s := by
  funext i k
  exact h s i k (by omega)
theorem zo_S.P {M M' : zm_M} {P : sp_P} (h : zo_S M M') (hP : rc_P P M) : rc_P P M' := hP.kept fun s hs => h.low (by omega)
theorem rc_S.z {M M' : zm_M} {A : af_A} {W : Nat → Bool} (h : rc_S M A W) (hz : zo_F 100 M M') : rc_S M' A W := by
  intro p hp
  obtain ⟨h1, h2, h3⟩ := h p hp
  refine ⟨?_, ?_, ?_⟩
  · rw [hz.low (by decide)]; exact h1
  · rw [hz.low (by decide)]; exact h2
  · intro F hF
    exact (h3 F hF).kept (funext fun k => hz 23 p k (by omega)) (funext fun k => hz 24 p k (by omega)) (funext fun k => hz 25 p k (by omega))
theorem sc_arrive {P : sp_P} {M : zm_M} {A : af_A} {W : Nat → Bool} {q : Nat} {F : sp_F} (hwP : wf_P P) (hP : rc_P P M) (hS : rc_S M A W) (hA : af_ok P A) (hF : rc_F M 100 F) (oF : ok_8 F) (hq : q ≤ 50) : ∃ M', fn_fl_arrive [.inr (18, 0), .inl (nI q), .inr (23, 100)] M = some (bI (af_arr P A q F).isSome, M') ∧ zo_S M M' ∧ rc_F M' 100 F ∧ ∀ A', af_arr P A q F = some A' → rc_S M' A' (af_w A A' W) := by
  have h50 := hwP.n
  rw [eq_fl_arrive, hP.n]
  simp only [nz_0, nz_1, nz_2, nz_3, nz_4, nz_5, nz_6, nz_7, nz_8, nz_9, nz_10, nz_11, nz_12, nz_13, nz_14, nz_15, nz_16, nz_17, nz_18, nz_19, nz_20, nz_21, nz_22, nz_23, nz_24, nz_25, nz_26, nz_27, nz_28, nz_29, nz_30, nz_31, nz_32, nz_33, nz_34, nz_35, nz_36, nz_37, nz_38, nz_39, nz_40, nz_41, nz_42, nz_43, nz_44, nz_45, nz_46, nz_47, nz_48, nz_49, nz_50, nz_51, nz_63, nz_64, nz_66, nz_127, nz_128, nz_246, nz_247, nz_248, nz_250, nz_251, nz_252, nz_254, nz_255, nz_256, nz_400, nz_2500]
  unfold af_arr
  by_cases e : q < pg_n P
  · obtain ⟨s1, s2, s3⟩ := hS q (by omega)
    rw [if_pos (ni_lt e (by omega) (by omega)), if_pos e, nI_clamp (by omega)]
    simp only [if_neg (ni_in (show q < 50 by omega) (show q < 2 ^ 31 by omega))]
    rw [s1]
    cases hAq : A q with
    | none =>
      rw [if_pos (by decide), show nI 1 &&& nI 1 = bI true by decide]
      have z1 : zo_p q M (zm_up (zm_up M 21 0 q (bI true)) 22 0 q (bI true)) := zo_p.r.tr zo_p.w
      have hF1 := z1.fr (f := 100) (by omega) hF
      obtain ⟨M', t1, t2, t3⟩ := sc_takeOver (f := q) hF1
      rw [t1]
      have z2 : zo_p q M M' := z1.tr (zo_p.F t2)
      refine ⟨M', rfl, z2.S (by omega), z2.fr (by omega) hF, ?_⟩
      intro A' hA'
      cases hA'
      intro r hr
      by_cases er : r = q
      · subst er
        refine ⟨?_, ?_, ?_⟩
        · rw [t2.low (by decide), zu_s (by decide), zu_e, af_up_e]
          rfl
        · rw [t2.low (by decide), zu_e]
          unfold af_w
          rw [af_up_e, hAq]
          simp
        · intro G hG
          rw [af_up_e] at hG
          cases hG
          exact t3
      · obtain ⟨r1, r2, r3⟩ := hS r hr
        refine ⟨?_, ?_, ?_⟩
        · rw [z2 21 0 r (by omega) (by omega), r1, af_up_n _ _ er]
        · rw [z2 22 0 r (by omega) (by omega), r2]
          unfold af_w
          rw [af_up_n _ _ er]
          simp
        · intro G hG
          rw [af_up_n _ _ er] at hG
          exact z2.fr er (r3 G hG)
    | some G =>
      rw [if_neg (by rw [Option.isSome_some]; decide)]
      obtain ⟨M', t1, t2, t3, t4⟩ := sc_joinAt hwP hP (show q < 50 by omega) (s3 G hAq) hF (hA q G hAq).2 oF s2
      rw [t1]
      simp only [Option.bind_some]
      rw [if_pos (bI_01 _)]
      refine ⟨M', ?_, t2.S (by omega), t2.fr (by omega) hF, ?_⟩
      · rw [Option.isSome_map]
      · intro A' hA'
        rw [Option.map_eq_some_iff] at hA'
        obtain ⟨H, h1, rfl⟩ := hA'
        obtain ⟨u1, u2⟩ := t4 H h1
        intro r hr
        by_cases er : r = q
        · subst er
          refine ⟨?_, ?_, ?_⟩
          · rw [t3, s1, af_up_e, hAq]
            rfl
          · rw [u2]
            unfold af_w
            rw [af_up_e, hAq]
            congr 2
            simp
          · intro K hK
            rw [af_up_e] at hK
            cases hK
            exact u1
        · obtain ⟨r1, r2, r3⟩ := hS r hr
          refine ⟨?_, ?_, ?_⟩
          · rw [t2 21 0 r (by omega) (by omega), r1, af_up_n _ _ er]
          · rw [t2 22 0 r (by omega) (by omega), r2]
            unfold af_w
            rw [af_up_n _ _ er]
            simp
          · intro K hK
            rw [af_up_n _ _ er] at hK
            exact t2.fr er (r3 K hK)
  · rw [if_neg (ni_nl (by omega) (by omega) (by omega)), if_neg e]
    exact ⟨M, rfl, zo_S.rf, hF, fun A' h => by cases h⟩
theorem rc_P.h {P : sp_P} {M : zm_M} (h : rc_P P M) : M 5 0 14 = nI (pg_han P).length ∧ ∀ h, h < (pg_han P).length → M 11 0 h = nI (pg_hd P h).1 ∧ M 12 0 h = nI (pg_hd P h).2.1 ∧ M 13 0 h = nI (pg_hd P h).2.2.1 ∧ M 14 0 h = nI (pg_hd P h).2.2.2 := h.2.2.2.2.2.2.2.2.2
theorem wf_hdl {P : sp_P} (hP : wf_P P) {h : Nat} (hh : h < (pg_han P).length) : wf_H (pg_hd P h) := by
  have : pg_hd P h ∈ pg_han P := by
    unfold pg_hd
    rw [List.getD_eq_getElem?_getD, List.getElem?_eq_getElem hh]
    exact List.getElem_mem hh
  exact hP.2.2.2.2.2.2.2.2.1 _ this
theorem sc_guarded {P : sp_P} {M : zm_M} {p h : Nat} (hwP : wf_P P) (hP : rc_P P M) (hp : p < 50) (hh : h < (pg_han P).length) : fn_pr_isGuarded [.inr (5, 0), .inl (nI p), .inl (nI h)] M = some (bI (decide ((pg_hd P h).1 ≤ p ∧ p < (pg_hd P h).2.1)), M) := by
  have h4 : (pg_han P).length ≤ 4 := hwP.2.2.2.2.2.2.2.1
  have hH := wf_hdl hwP hh
  obtain ⟨a1, a2, a3, a4⟩ := hP.h.2 h hh
  unfold wf_H at hH
  rw [eq_pr_isGuarded]
  simp only [nz_0, nz_1, nz_2, nz_3, nz_4, nz_5, nz_6, nz_7, nz_8, nz_9, nz_10, nz_11, nz_12, nz_13, nz_14, nz_15, nz_16, nz_17, nz_18, nz_19, nz_20, nz_21, nz_22, nz_23, nz_24, nz_25, nz_26, nz_27, nz_28, nz_29, nz_30, nz_31, nz_32, nz_33, nz_34, nz_35, nz_36, nz_37, nz_38, nz_39, nz_40, nz_41, nz_42, nz_43, nz_44, nz_45, nz_46, nz_47, nz_48, nz_49, nz_50, nz_51, nz_63, nz_64, nz_66, nz_127, nz_128, nz_246, nz_247, nz_248, nz_250, nz_251, nz_252, nz_254, nz_255, nz_256, nz_400, nz_2500]
  rw [nI_clamp (by omega), if_neg (ni_in (show h < 4 by omega) (by omega)), a1, if_neg (ni_in (show h < 4 by omega) (by omega)), a2]
  by_cases e1 : p < (pg_hd P h).1
  · rw [if_pos (ni_lt e1 (by omega) (by omega)), decide_eq_false (by omega)]
    rfl
  · rw [if_neg (ni_nl (by omega) (by omega) (by omega))]
    by_cases e2 : p < (pg_hd P h).2.1
    · rw [if_pos (ni_lt e2 (by omega) (by omega)), decide_eq_true (by omega)]
      rfl
    · rw [if_neg (ni_nl (by omega) (by omega) (by omega)), decide_eq_false (by omega)]
      rfl
theorem sc_hs_lp {P : sp_P} (hwP : wf_P P) {p : Nat} (hp : p < pg_n P) : ∀ (k h n : Nat) (M : zm_M) (A : af_A) (W : Nat → Bool), h + k = (pg_han P).length → k < n → rc_P P M → rc_S M A W → af_ok P A → (A p).isSome = true → ∃ M', rr_fl_leaveToHandlers n 2 [some (.inr (18, 0)), some (.inl (nI p)), some (.inl (nI h))] [] M = some (bI (af_hs P p k h A).isSome, M') ∧ zo_S M M' ∧ ∀ A', af_hs P p k h A = some A' → rc_S M' A' (af_w A A' W) ∧ af_ok P A' ∧ af_le P A A' := by
  have h4 : (pg_han P).length ≤ 4 := hwP.2.2.2.2.2.2.2.1
  have h50 := hwP.n
  intro k
  induction k with
  | zero =>
    intro h n M A W hk hn hP hS hA hsm
    obtain ⟨n, rfl⟩ : ∃ m, n = m + 1 := ⟨n - 1, by omega⟩
    rw [eq_fl_leaveToHandlers_2, hP.h.1, if_neg (ni_nl (by omega) (by omega) (by omega))]
    refine ⟨M, rfl, zo_S.rf, ?_⟩
    intro A' hA'
    cases hA'
    rw [af_w_rf]
    exact ⟨hS, hA, af_le.rf A⟩
  | succ k ih =>
    intro h n M A W hk hn hP hS hA hsm
    obtain ⟨n, rfl⟩ : ∃ m, n = m + 1 := ⟨n - 1, by omega⟩
    have hH := wf_hdl hwP (show h < _ by omega)
    unfold wf_H at hH
    obtain ⟨a1, a2, a3, a4⟩ := hP.h.2 h (by omega)
    rw [eq_fl_leaveToHandlers_2, hP.h.1, if_pos (ni_lt (by omega) (by omega) (by omega)), sc_guarded hwP hP (by omega) (by omega)]
    simp only [nz_0, nz_1, nz_2, nz_3, nz_4, nz_5, nz_6, nz_7, nz_8, nz_9, nz_10, nz_11, nz_12, nz_13, nz_14, nz_15, nz_16, nz_17, nz_18, nz_19, nz_20, nz_21, nz_22, nz_23, nz_24, nz_25, nz_26, nz_27, nz_28, nz_29, nz_30, nz_31, nz_32, nz_33, nz_34, nz_35, nz_36, nz_37, nz_38, nz_39, nz_40, nz_41, nz_42, nz_43, nz_44, nz_45, nz_46, nz_47, nz_48, nz_49, nz_50, nz_51, nz_63, nz_64, nz_66, nz_127, nz_128, nz_246, nz_247, nz_248, nz_250, nz_251, nz_252, nz_254, nz_255, nz_256, nz_400, nz_2500, nI_add, Option.bind_some, bI_0]
    unfold af_hs
    by_cases e : (pg_hd P h).1 ≤ p ∧ p < (pg_hd P h).2.1
    · obtain ⟨F, hF⟩ := Option.isSome_iff_exists.mp hsm
      rw [if_neg (by simp [e]), if_pos e, nI_clamp (by omega), nI_clamp (by omega), if_neg (ni_in (show p < 50 by omega) (by omega)), if_neg (ni_in (show h < 4 by omega) (by omega)), a4, hF]
      dsimp only
      obtain ⟨M1, t1, t2, t3⟩ := sc_tofh (f := 100) ((hS p (by omega)).2.2 F hF) (show (pg_hd P h).2.2.2 < 8 by omega)
      rw [t1]
      simp only [Option.bind_some]
      have hP1 := hP.zo t2
      rw [if_neg (ni_in (show h < 4 by omega) (by omega)), (hP1.h.2 h (by omega)).2.2.1]
      have o8 := af_hf_ok hwP (h := h) (hA p F hF).2
      obtain ⟨M2, u1, u2, u3, u4⟩ := sc_arrive (q := (pg_hd P h).2.2.1) (F := af_hf P h F) hwP hP1 (hS.z t2) hA t3 o8 (by omega)
      rw [u1]
      simp only [Option.bind_some, bI_0]
      cases hb : af_arr P A (pg_hd P h).2.2.1 (af_hf P h F) with
      | none => exact ⟨M2, rfl, t2.S.tr u2, fun A' q => by cases q⟩
      | some B =>
        have s1 := af_arr_s hwP.1 hA o8 hb
        rw [if_neg (by rw [Option.isSome_some]; decide)]
        obtain ⟨M3, v1, v2, v3⟩ := ih (h + 1) n M2 B (af_w A B W) (by omega) (by omega) (u2.P hP1) (u4 B hb) s1.1 (s1.2.1.sm hsm)
        rw [v1]
        refine ⟨M3, rfl, (t2.S.tr u2).tr v2, ?_⟩
        intro A' hA'
        obtain ⟨w1, w2, w3⟩ := v3 A' hA'
        rw [af_w_tr hwP.1 hA s1.1 s1.2.1 w3] at w1
        exact ⟨w1, w2, s1.2.1.tr hwP.1 hA s1.1 w3⟩
    · rw [if_pos (by simpa using e), if_neg e]
      exact ih (h + 1) n M A W (by omega) (by omega) hP hS hA hsm
theorem sc_hs {P : sp_P} {M : zm_M} {A : af_A} {W : Nat → Bool} {p : Nat} (hwP : wf_P P) (hp : p < pg_n P) (hP : rc_P P M) (hS : rc_S M A W) (hA : af_ok P A) (hsm : (A p).isSome = true) : ∃ M', fn_fl_leaveToHandlers [.inr (18, 0), .inl (nI p)] M = some (bI (af_hs P p (pg_han P).length 0 A).isSome, M') ∧ zo_S M M' ∧ ∀ A', af_hs P p (pg_han P).length 0 A = some A' → rc_S M' A' (af_w A A' W) ∧ af_ok P A' ∧ af_le P A A' := by
  have h4 : (pg_han P).length ≤ 4 := hwP.2.2.2.2.2.2.2.1
  rw [eq_fl_leaveToHandlers, show (1073741824 : Nat) = 1073741823 + 1 from rfl, eq_fl_leaveToHandlers_0, nz_0]
  exact sc_hs_lp hwP hp _ 0 _ M A W (by omega) (by omega) hP hS hA hsm
theorem st_bind {α : Type} {x : Option (Int32 × zm_M)} {y : Option α} {M' : zm_M} (h : x = some (bI y.isSome, M')) : (x.bind fun q => if q.1 = nI 0 then some (nI 0, q.2) else some (nI 1, q.2)) = some (bI y.isSome, M') := by
  rw [h, Option.bind_some]
  cases y <;> rfl
theorem sc_lv {P : sp_P} {M : zm_M} {A : af_A} {W : Nat → Bool} {p : Nat} (hwP : wf_P P) (hp : p < pg_n P) (hP : rc_P P M) (hS : rc_S M A W) (hA : af_ok P A) (hsm : (A p).isSome = true) : ∃ M', fn_fl_leave [.inr (18, 0), .inl (nI p)] M = some (bI (af_lv P p A).isSome, M') ∧ zo_S M M' ∧ ∀ A', af_lv P p A = some A' → rc_S M' A' (af_w A A' W) ∧ af_ok P A' ∧ af_le P A A' := by
  have h50 := hwP.n
  have hI := wf_at hwP hp
  have h40 : pg_op P p < 40 := hI.1
  obtain ⟨F, hF⟩ := Option.isSome_iff_exists.mp hsm
  have hF8 := (hA p F hF).2
  obtain ⟨M1, t1, t2, t3⟩ := sc_takeOver (f := 100) ((hS p (by omega)).2.2 F hF)
  have hP1 := hP.zo t2
  obtain ⟨M2, u1, u2, u3⟩ := st_step hwP hP1 t3 hF8.1.1 hp
  have hP2 := hP1.zo u2
  have z2 : zo_F 100 M M2 := t2.tr u2
  rw [eq_fl_leave]
  simp only [nz_0, nz_1, nz_2, nz_3, nz_4, nz_5, nz_6, nz_7, nz_8, nz_9, nz_10, nz_11, nz_12, nz_13, nz_14, nz_15, nz_16, nz_17, nz_18, nz_19, nz_20, nz_21, nz_22, nz_23, nz_24, nz_25, nz_26, nz_27, nz_28, nz_29, nz_30, nz_31, nz_32, nz_33, nz_34, nz_35, nz_36, nz_37, nz_38, nz_39, nz_40, nz_41, nz_42, nz_43, nz_44, nz_45, nz_46, nz_47, nz_48, nz_49, nz_50, nz_51, nz_63, nz_64, nz_66, nz_127, nz_128, nz_246, nz_247, nz_248, nz_250, nz_251, nz_252, nz_254, nz_255, nz_256, nz_400, nz_2500, nI_add]
  rw [nI_clamp (by omega), if_neg (ni_in (show p < 50 by omega) (by omega)), t1]
  simp only [Option.bind_some]
  rw [u1]
  simp only [Option.bind_some, bI_0]
  unfold af_lv
  rw [hF, Option.bind_some]
  cases hs : sp_stp P p F with
  | none => exact ⟨M2, rfl, z2.S, fun A' q => by cases q⟩
  | some F' =>
    have o8 := ok_8_stp hwP hp hF8 hs
    have hF' := (u3 F' hs).1
    rw [if_neg (by rw [Option.isSome_some]; decide), if_neg (ni_in (show p < 50 by omega) (by omega)), (hP2.i p hp).1, sc_isJump (by omega)]
    simp only [Option.bind_some, bI_0]
    rw [sc_isEnd (by omega), if_neg (ni_in (show p < 50 by omega) (by omega)), (hP2.i p hp).2.2]
    simp only [Option.bind_some, bI_0]
    -- the last coming
    have last : ∀ (M3 : zm_M) (B : af_A) (V : Nat → Bool), rc_P P M3 → rc_S M3 B V → af_ok P B → rc_F M3 100 F' → ∃ M', ((fn_mf_isEnd [.inl (nI (pg_op P p))] M3).bind fun q7 => if q7.1 = nI 0 then (fn_fl_arrive [.inr (18, 0), .inl (nI (p + 1)), .inr (23, 100)] q7.2).bind fun q8 => if q8.1 = nI 0 then some (nI 0, q8.2) else some (nI 1, q8.2) else some (nI 1, q7.2)) = some (bI (if sp_end (pg_op P p) then some B else af_arr P B (p + 1) F').isSome, M') ∧ zo_S M3 M' ∧ ∀ A', (if sp_end (pg_op P p) then some B else af_arr P B (p + 1) F') = some A' → rc_S M' A' (af_w B A' V) ∧ af_ok P A' ∧ af_le P B A' := by
      intro M3 B V hP3 hS3 hB hF3
      rw [sc_isEnd (by omega)]
      simp only [Option.bind_some, bI_0]
      rcases Bool.eq_false_or_eq_true (sp_end (pg_op P p)) with he | he
      · rw [if_neg (by rw [he]; decide), if_pos he]
        refine ⟨M3, rfl, zo_S.rf, ?_⟩
        intro A' hA'
        cases hA'
        rw [af_w_rf]
        exact ⟨hS3, hB, af_le.rf _⟩
      · rw [if_pos he, if_neg (by rw [he]; decide)]
        obtain ⟨M4, v1, v2, v3, v4⟩ := sc_arrive (q := p + 1) hwP hP3 hS3 hB hF3 o8 (by omega)
        refine ⟨M4, st_bind v1, v2, ?_⟩
        intro A' hA'
        have s1 := af_arr_s hwP.1 hB o8 hA'
        exact ⟨v4 A' hA', s1.1, s1.2.1⟩
    rcases Bool.eq_false_or_eq_true (sp_jmp (pg_op P p)) with hj | hj
    · rw [if_neg (by rw [hj]; decide), if_pos hj]
      have hb50 : pg_b P p < 50 := by
        unfold sp_jmp at hj
        simp only [Bool.and_eq_true, decide_eq_true_eq] at hj
        exact hI.2.2.1 (by have := hj.1; unfold pg_op at this; omega) (by have := hj.2; unfold pg_op at this; omega)
      obtain ⟨M3, v1, v2, v3, v4⟩ := sc_arrive (q := pg_b P p) hwP hP2 (hS.z z2) hA hF' o8 (by omega)
      rw [v1]
      simp only [Option.bind_some, bI_0]
      cases hb : af_arr P A (pg_b P p) F' with
      | none => exact ⟨M3, rfl, z2.S.tr v2, fun A' q => by cases q⟩
      | some B =>
        have s1 := af_arr_s hwP.1 hA o8 hb
        rw [if_neg (by rw [Option.isSome_some]; decide)]
        obtain ⟨M4, w1, w2, w3⟩ := last M3 B (af_w A B W) (v2.P hP2) (v4 B hb) s1.1 v3
        refine ⟨M4, w1, (z2.S.tr v2).tr w2, ?_⟩
        intro A' hA'
        obtain ⟨x1, x2, x3⟩ := w3 A' hA'
        rw [af_w_tr hwP.1 hA s1.1 s1.2.1 x3] at x1
        exact ⟨x1, x2, s1.2.1.tr hwP.1 hA s1.1 x3⟩
    · rw [if_pos hj, if_neg (show ¬ sp_jmp (pg_op P p) = true by rw [hj]; decide)]
      obtain ⟨M4, w1, w2, w3⟩ := last M2 A W hP2 (hS.z z2) hA hF'
      rw [sc_isEnd (by omega)] at w1
      simp only [Option.bind_some, bI_0] at w1
      exact ⟨M4, w1, z2.S.tr w2, w3⟩
