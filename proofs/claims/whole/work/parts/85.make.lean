/-! MAKE -/
def rm_B (M : zm_M) (W : List Nat) : Prop := M 35 0 7 = nI W.length ∧ ∀ i, i < W.length → M 46 0 i = nI (W.getD i 0)
/-- the reference alone has done something, and its METHOD is the same -/
def zo_O (M M' : zm_M) : Prop := ∀ s, s < 35 → M' s = M s
theorem zo_O.rf {M : zm_M} : zo_O M M := fun _ _ => rfl
theorem zo_O.tr {M M1 M2 : zm_M} (h : zo_O M M1) (h2 : zo_O M1 M2) : zo_O M M2 := fun s hs => (h2 s hs).trans (h s hs)
theorem zo_B.O {M M' : zm_M} (h : zo_B M M') : zo_O M M' := fun s hs => by
  funext i k
  exact h s i k (by omega) (by omega)
theorem zo_M.O {M M' : zm_M} (h : zo_M M M') : zo_O M M' := h.B.O
theorem zo_n.O {c s : Nat} {M M' : zm_M} (h : zo_n c s M M') (hs : 35 ≤ s) : zo_O M M' := fun s' hs' => by
  funext i k
  exact h s' i k (by omega) (by omega)
/-- what a make leaves alone -/
def zo_K (M M' : zm_M) : Prop := zo_O M M' ∧ M' 46 = M 46 ∧ M' 35 0 7 = M 35 0 7 ∧ ∀ P, rm_P P M → rm_P P M'
theorem zo_K.rf {M : zm_M} : zo_K M M := ⟨zo_O.rf, rfl, rfl, fun _ h => h⟩
theorem zo_K.tr {M M1 M2 : zm_M} (h : zo_K M M1) (h2 : zo_K M1 M2) : zo_K M M2 := ⟨h.1.tr h2.1, h2.2.1.trans h.2.1, h2.2.2.1.trans h.2.2.1, fun P q => h2.2.2.2 P (h.2.2.2 P q)⟩
theorem zo_B.K {M M' : zm_M} (h : zo_B M M') : zo_K M M' := ⟨h.O, by funext i k; exact h 46 i k (by omega) (by omega), h 35 0 7 (by omega) (by omega), fun P q => h.P q⟩
theorem zo_n.Kk {c s : Nat} {M M' : zm_M} (h : zo_n c s M M') (hc : 8 < c) (hs : 46 < s) : zo_K M M' := ⟨h.O (by omega), by funext i k; exact h 46 i k (by omega) (by omega), h 35 0 7 (by omega) (by omega), fun P q => h.P hc (by omega) q⟩
theorem sm_mk_lp {P : sp_P} {B : af_A} (hwP : wf_P P) (hB : af_ok P B) (hall : ∀ p, p < pg_n P → (B p).isSome = true) {v1 : Int32} : ∀ (k p n : Nat) (M : zm_M) (W Y : List Nat) (l r : Nat) (o5 o6 : Option zm_V), p + k = pg_n P → k < n → r + k < 2 ^ 30 → rm_P P M → rm_S M B → rm_K M Y → rm_W M W → l ≤ sp_off P p → W.length + (sp_mr P B k p Y l).1.length ≤ 2500 → ∃ M' n' v3 o5' o6', rr_mo_make n 36 [some (.inr (35, 0)), some (.inl v1), some (.inl (nI r)), some (.inl (vl l)), some (.inl (nI p)), o5, o6] [] M = rr_mo_make (n' + 1) 36 [some (.inr (35, 0)), some (.inl v1), some (.inl (nI (r + (sp_mr P B k p Y l).2))), some (.inl v3), some (.inl (nI (pg_n P))), o5', o6'] [] M' ∧ n ≤ n' + 1 + k ∧ zo_K M M' ∧ rm_W M' (W ++ (sp_mr P B k p Y l).1) := by
  have h50 := hwP.n
  intro k
  induction k with
  | zero =>
    intro p n M W Y l r o5 o6 hk hn hr hP hS hY hW hl hWl
    obtain ⟨n, rfl⟩ : ∃ m, n = m + 1 := ⟨n - 1, by omega⟩
    have : p = pg_n P := by omega
    subst this
    refine ⟨M, n, _, _, _, rfl, by omega, zo_K.rf, ?_⟩
    rw [show (sp_mr P B 0 (pg_n P) Y l).1 = [] from rfl, List.append_nil]
    exact hW
  | succ k ih =>
    intro p n M W Y l r o5 o6 hk hn hr hP hS hY hW hl hWl
    obtain ⟨n, rfl⟩ : ∃ m, n = m + 1 := ⟨n - 1, by omega⟩
    have hoff := sp_off_le P p
    have hoffs := sp_off_s (show p < pg_n P by omega)
    have hlen := sp_len_le (pg_op P p)
    rw [eq_mo_make_36, hP.n, if_pos (ni_lt (by omega) (by omega) (by omega)), so_hasRow hwP hP (by omega)]
    simp only [nz_0, nz_1, nz_2, nz_3, nz_4, nz_5, nz_6, nz_7, nz_8, nz_9, nz_10, nz_11, nz_12, nz_13, nz_14, nz_15, nz_16, nz_17, nz_18, nz_19, nz_20, nz_21, nz_22, nz_23, nz_24, nz_25, nz_26, nz_27, nz_28, nz_29, nz_30, nz_31, nz_32, nz_33, nz_34, nz_35, nz_36, nz_37, nz_38, nz_39, nz_40, nz_41, nz_42, nz_43, nz_44, nz_45, nz_46, nz_47, nz_48, nz_49, nz_50, nz_51, nz_63, nz_64, nz_66, nz_127, nz_128, nz_246, nz_247, nz_248, nz_250, nz_251, nz_252, nz_254, nz_255, nz_256, nz_400, nz_2500, nI_add, Option.bind_some, bI_0]
    rw [sp_mr] at hWl ⊢
    by_cases hrow : sp_row P p = true
    · rw [if_neg (show ¬ sp_row P p = false by rw [hrow]; decide)]
      rw [if_pos hrow] at hWl ⊢
      obtain ⟨F, hBF⟩ := Option.isSome_iff_exists.mp (hall p (by omega))
      rw [hBF] at hWl ⊢
      dsimp only at hWl ⊢
      rw [List.length_append] at hWl
      have hok := (hB p F hBF).2
      rw [so_offset hwP hP (by omega)]
      simp only [Option.bind_some]
      obtain ⟨M1, a1, a2, a3⟩ := sm_fetch (show p < 50 by omega) ((hS p (by omega)).2 F hBF) hok.2
      obtain ⟨M2, b1, b2, b3⟩ := sm_enlist a3 hok.1.1
      have hY2 : rm_K M2 Y := b2.K (by omega) (by omega) (by omega) (by
        refine ⟨?_, hY.2.1, ?_, hY.2.2.2⟩
        · rw [a2 35 0 38 (by omega) (by decide) (by decide)]
          exact hY.1
        · intro i hi
          rw [a2.s (by decide) (by decide) (by decide)]
          exact hY.2.2.1 i hi)
      have hW2 : rm_W M2 W := b2.W (by omega) (by omega) (by omega) (by
        refine ⟨?_, ?_⟩
        · rw [a2 35 0 40 (by omega) (by decide) (by decide)]
          exact hW.1
        · intro i hi
          rw [a2.s (by decide) (by decide) (by decide)]
          exact hW.2 i hi)
      have hF2 := b2.F (by omega) (by omega) a3
      obtain ⟨M3, c1, c2, c3⟩ := sm_writeRow (d := sp_off P p - l) b3 hY2 hF2 hok.1.1 hW2 (by omega) (by omega)
      have hX3 := c2.L (by omega) (by omega) (by omega) b3
      obtain ⟨M4, d1, d2, d3⟩ := sm_keep hX3
      have z4 : zo_K M M4 := ((a2.B.K.tr (b2.Kk (by omega) (by omega))).tr (c2.Kk (by omega) (by omega))).tr (d2.Kk (by omega) (by omega))
      have hS4 : rm_S M4 B := d2.S (by omega) (c2.S (by omega) (b2.S (by omega) (a2.S hS)))
      rw [a1, Option.bind_some, b1, Option.bind_some, vl_d hl, c1, Option.bind_some, d1, Option.bind_some, ← vl_s (sp_off P p)]
      obtain ⟨M5, n', v3, o5', o6', e1, e2, e3, e4⟩ := ih (p + 1) n M4 (W ++ sp_rb Y (sp_lst F.1) F.2.1 (sp_off P p - l)) (sp_lst F.1) (sp_off P p + 1) (r + 1) (some (.inl (bI (sp_row P p)))) (some (.inl (vl (sp_off P p + 1)))) (by omega) (by omega) (by omega) (z4.2.2.2 P hP) hS4 d3 (d2.W (by omega) (by omega) (by omega) c3) (by omega) (by rw [List.length_append]; omega)
      refine ⟨M5, n', v3, o5', o6', ?_, by omega, z4.tr e3, ?_⟩
      · rw [show r + ((sp_mr P B k (p + 1) (sp_lst F.1) (sp_off P p + 1)).2 + 1) = r + 1 + (sp_mr P B k (p + 1) (sp_lst F.1) (sp_off P p + 1)).2 by omega]
        exact e1
      · rw [List.append_assoc] at e4
        exact e4
    · have hrow : sp_row P p = false := by simpa using hrow
      rw [if_neg (show ¬ sp_row P p = true by rw [hrow]; decide)] at hWl ⊢
      rw [if_pos hrow]
      obtain ⟨M5, n', v3, o5', o6', e1, e2, e3, e4⟩ := ih (p + 1) n M W Y l r (some (.inl (bI (sp_row P p)))) o6 (by omega) (by omega) (by omega) hP hS hY hW (by omega) hWl
      exact ⟨M5, n', v3, o5', o6', e1, by omega, e3, e4⟩
theorem sm_mk_cp {v1 v2 v3 : Int32} {W : List Nat} (hl : W.length ≤ 400) : ∀ (k i n : Nat) (M : zm_M) (o5 o6 : Option zm_V), i + k = W.length → k < n → rm_W M W → (∀ j, j < i → M 46 0 j = nI (W.getD j 0)) → ∃ M', rr_mo_make n 121 [some (.inr (35, 0)), some (.inl v1), some (.inl v2), some (.inl v3), some (.inl (nI i)), o5, o6] [] M = some (v2, M') ∧ zo_n 7 46 M M' ∧ rm_B M' W := by
  intro k
  induction k with
  | zero =>
    intro i n M o5 o6 hk hn hW hM
    obtain ⟨n, rfl⟩ : ∃ m, n = m + 1 := ⟨n - 1, by omega⟩
    rw [eq_mo_make_121, hW.1, if_neg (ni_nl (by omega) (by omega) (by omega))]
    refine ⟨_, rfl, zo_n.c, zu_e, ?_⟩
    intro j hj
    rw [zu_s (by decide)]
    exact hM j (by omega)
  | succ k ih =>
    intro i n M o5 o6 hk hn hW hM
    obtain ⟨n, rfl⟩ : ∃ m, n = m + 1 := ⟨n - 1, by omega⟩
    rw [eq_mo_make_121, hW.1, if_pos (ni_lt (by omega) (by omega) (by omega)), nI_clamp (by omega)]
    simp only [nz_0, nz_1, nz_2, nz_3, nz_4, nz_5, nz_6, nz_7, nz_8, nz_9, nz_10, nz_11, nz_12, nz_13, nz_14, nz_15, nz_16, nz_17, nz_18, nz_19, nz_20, nz_21, nz_22, nz_23, nz_24, nz_25, nz_26, nz_27, nz_28, nz_29, nz_30, nz_31, nz_32, nz_33, nz_34, nz_35, nz_36, nz_37, nz_38, nz_39, nz_40, nz_41, nz_42, nz_43, nz_44, nz_45, nz_46, nz_47, nz_48, nz_49, nz_50, nz_51, nz_63, nz_64, nz_66, nz_127, nz_128, nz_246, nz_247, nz_248, nz_250, nz_251, nz_252, nz_254, nz_255, nz_256, nz_400, nz_2500, nI_add]
    rw [if_neg (ni_in (show i < 2500 by omega) (by omega)), if_neg (ni_in (show i < 400 by omega) (by omega)), hW.2 i (by omega)]
    obtain ⟨M', h1, h2, h3⟩ := ih (i + 1) n (zm_up M 46 0 i (nI (W.getD i 0))) o5 o6 (by omega) (by omega) ⟨by rw [zu_s (by decide)]; exact hW.1, fun j hj => by rw [zu_s (by decide)]; exact hW.2 j hj⟩ (by
      intro j hj
      by_cases e : j = i
      · subst e
        exact zu_e
      · rw [zu_k e]
        exact hM j (by omega))
    exact ⟨M', h1, zo_n.a.tr h2, h3⟩
theorem wh_all {P : sp_P} {B : af_A} (h : sp_whole P B = true) : ∀ p, p < pg_n P → (B p).isSome = true := by
  intro p hp
  unfold sp_whole at h
  rw [Bool.and_eq_true, List.all_eq_true] at h
  have := h.1 p (by rw [List.mem_range'_1]; omega)
  unfold sp_wp at this
  cases e : B p with
  | none => rw [e] at this; cases this
  | some F => rfl
theorem zo_n7.P {M M' : zm_M} {P : sp_P} (h : zo_n 7 46 M M') (hP : rm_P P M) : rm_P P M' := by
  unfold rm_P rm_C at hP ⊢
  have hk : ∀ s, 35 < s → s < 46 → M' s = M s := fun s h1 h2 => by
    funext i k
    exact h s i k (by omega) (by omega)
  have hk2 : ∀ k, k ≠ 7 → M' 35 0 k = M 35 0 k := fun k h1 => h 35 0 k (by omega) (by omega)
  rw [hk 36 (by decide) (by decide), hk 37 (by decide) (by decide), hk 38 (by decide) (by decide), hk 39 (by decide) (by decide), hk 40 (by decide) (by decide), hk 41 (by decide) (by decide), hk 42 (by decide) (by decide), hk 43 (by decide) (by decide), hk 44 (by decide) (by decide), hk 45 (by decide) (by decide), hk2 2 (by decide), hk2 3 (by decide), hk2 4 (by decide), hk2 5 (by decide), hk2 6 (by decide), hk2 8 (by decide)]
  exact hP
theorem sm_make {P : sp_P} {M : zm_M} (hwP : wf_P P) (hP : rm_P P M) : ∃ M' x, fn_mo_make [.inr (35, 0)] M = some (x, M') ∧ zo_O M M' ∧ rm_P P M' ∧ (¬ sp_right P → x = -nI 4 ∧ M' 46 = M 46 ∧ M' 35 0 7 = M 35 0 7) ∧ ∀ B, af_least P B → sp_whole P B = true → (400 < (sp_made P B).1.length → x = -nI 3 ∧ M' 46 = M 46 ∧ M' 35 0 7 = M 35 0 7) ∧ ((sp_made P B).1.length ≤ 400 → x = nI (sp_made P B).2 ∧ rm_B M' (sp_made P B).1) := by
  have h50 := hwP.n
  obtain ⟨M1, b, a1, a2, a3, a4⟩ := sm_isRight hwP hP
  rw [eq_mo_make, show (1073741824 : Nat) = 1073741823 + 1 from rfl, eq_mo_make_0, a1]
  simp only [Option.bind_some, nz_0, nz_1, nz_2, nz_3, nz_4, nz_5, nz_6, nz_7, nz_8, nz_9, nz_10, nz_11, nz_12, nz_13, nz_14, nz_15, nz_16, nz_17, nz_18, nz_19, nz_20, nz_21, nz_22, nz_23, nz_24, nz_25, nz_26, nz_27, nz_28, nz_29, nz_30, nz_31, nz_32, nz_33, nz_34, nz_35, nz_36, nz_37, nz_38, nz_39, nz_40, nz_41, nz_42, nz_43, nz_44, nz_45, nz_46, nz_47, nz_48, nz_49, nz_50, nz_51, nz_63, nz_64, nz_66, nz_127, nz_128, nz_246, nz_247, nz_248, nz_250, nz_251, nz_252, nz_254, nz_255, nz_256, nz_400, nz_2500, bI_0]
  cases b with
  | false =>
    rw [if_pos rfl]
    have hno : ¬ sp_right P := fun q => by have := a3.mpr q; cases this
    refine ⟨M1, _, rfl, a2.O, a2.P hP, fun _ => ⟨rfl, a2.K.2.1, a2.K.2.2.1⟩, ?_⟩
    intro B hB hw
    exact absurd ⟨B, hB, hw⟩ hno
  | true =>
    rw [if_neg (by decide)]
    obtain ⟨B, hB, hw⟩ := a3.mp rfl
    have hall := wh_all hw
    have hmade := made_le hwP hB hw
    have hS1 := a4 rfl B hB
    have z1 : zo_K M (zm_up M1 35 0 40 (nI 0)) := a2.K.tr ((zo_n.c (c := 40) (s := 61)).Kk (by omega) (by omega))
    obtain ⟨M2, b1, b2, b3⟩ := sm_first hwP (z1.2.2.2 P hP)
    obtain ⟨M3, c1, c2, c3⟩ := sm_enlist b3 (fst_ok hwP).1
    obtain ⟨M4, d1, d2, d3⟩ := sm_keep c3
    have z4 : zo_K M M4 := ((z1.tr b2.B.K).tr (c2.Kk (by omega) (by omega))).tr (d2.Kk (by omega) (by omega))
    have hS4 : rm_S M4 B := d2.S (by omega) (c2.S (by omega) (b2.S hS1.f))
    have hW2 : rm_W M2 [] := by
      refine ⟨?_, fun i hi => by simp at hi⟩
      rw [b2 35 0 40 (by omega) (by decide) (by decide), zu_e]
      rfl
    have hW4 : rm_W M4 [] := d2.W (by omega) (by omega) (by omega) (c2.W (by omega) (by omega) (by omega) hW2)
    rw [b1, Option.bind_some, c1, Option.bind_some, d1, Option.bind_some, show -nI 1 = vl 0 from rfl]
    obtain ⟨M5, n', v3, o5', o6', e1, e2, e3, e4⟩ := sm_mk_lp hwP hB.1.1 hall (v1 := bI true) (pg_n P) 0 (1073741823 + 1) M4 [] (sp_lst (sp_fst P).1) 0 0 none none (by omega) (by omega) (by omega) (z4.2.2.2 P hP) hS4 d3 hW4 (by omega) (by
      have : (sp_mr P B (pg_n P) 0 (sp_lst (sp_fst P).1) 0).1.length ≤ 2500 := hmade
      simpa using this)
    have z5 := z4.tr e3
    have hP5 := z5.2.2.2 P hP
    rw [List.nil_append] at e4
    rw [Nat.zero_add] at e1
    have e4 : rm_W M5 (sp_made P B).1 := e4
    rw [e1, eq_mo_make_36, hP5.n, if_neg (ni_nl (Nat.le_refl _) (by omega) (by omega)), e4.1]
    simp only [nz_0, nz_1, nz_2, nz_3, nz_4, nz_5, nz_6, nz_7, nz_8, nz_9, nz_10, nz_11, nz_12, nz_13, nz_14, nz_15, nz_16, nz_17, nz_18, nz_19, nz_20, nz_21, nz_22, nz_23, nz_24, nz_25, nz_26, nz_27, nz_28, nz_29, nz_30, nz_31, nz_32, nz_33, nz_34, nz_35, nz_36, nz_37, nz_38, nz_39, nz_40, nz_41, nz_42, nz_43, nz_44, nz_45, nz_46, nz_47, nz_48, nz_49, nz_50, nz_51, nz_63, nz_64, nz_66, nz_127, nz_128, nz_246, nz_247, nz_248, nz_250, nz_251, nz_252, nz_254, nz_255, nz_256, nz_400, nz_2500]
    have uniq : ∀ C, af_least P C → C = B := fun C hC => hC.u hwP.1 hB
    by_cases e400 : 400 < (sp_made P B).1.length
    · rw [if_pos (ni_lt e400 (by omega) (by omega))]
      refine ⟨M5, _, rfl, z5.1, hP5, fun q => absurd ⟨B, hB, hw⟩ q, ?_⟩
      intro C hC _
      rw [uniq C hC]
      exact ⟨fun _ => ⟨rfl, z5.2.1, z5.2.2.1⟩, fun q => by omega⟩
    · rw [if_neg (ni_nl (by omega) (by omega) (by omega))]
      obtain ⟨M6, f1, f2, f3⟩ := sm_mk_cp (v1 := bI true) (v2 := nI (sp_mr P B (pg_n P) 0 (sp_lst (sp_fst P).1) 0).2) (v3 := v3) (show (sp_made P B).1.length ≤ 400 by omega) (sp_made P B).1.length 0 (n' + 1) M5 o5' o6' (by omega) (by omega) e4 (fun j hj => by omega)
      rw [f1]
      refine ⟨M6, _, rfl, z5.1.tr (f2.O (by omega)), zo_n7.P f2 hP5, fun q => absurd ⟨B, hB, hw⟩ q, ?_⟩
      intro C hC _
      rw [uniq C hC]
      exact ⟨fun q => absurd q e400, fun _ => ⟨rfl, f3⟩⟩
/-! the class -/
theorem sc_by_take {M : zm_M} {W : List Nat} (h : rc_W M 1 W) (hl : W.length ≤ 400) : ∃ M', fn_by_takeOver [.inr (15, 0), .inr (15, 1)] M = some M' ∧ zo_W 0 M M' ∧ rc_W M' 0 W := by
  have hac : ∀ Q : zm_M, zm_ac zt_Y [.inr (16, 1), .inl (nI 0), .inr (16, 0), .inl (nI 0), .inl (nI W.length)] Q = some (zm_ua Q 16 0 (va_cpy (Q 16 1) (Q 16 0) 0 0 W.length)) := by
    intro Q
    show (if nI 0 < 0 ∨ nI 0 < 0 ∨ nI W.length < 0 ∨ 400 < (nI 0).toNatClampNeg + (nI W.length).toNatClampNeg ∨ 400 < (nI 0).toNatClampNeg + (nI W.length).toNatClampNeg then none else some (zm_ua Q 16 0 (va_cpy (Q 16 1) (Q 16 0) (nI 0).toNatClampNeg (nI 0).toNatClampNeg (nI W.length).toNatClampNeg))) = _
    rw [nI_clamp (by omega), nI_clamp (by omega), if_neg]
    rintro (q | q | q | q | q)
    · exact nI_pos (by omega) q
    · exact nI_pos (by omega) q
    · exact nI_pos (by omega) q
    · omega
    · omega
  rw [eq_by_takeOver, h.1]
  simp only [nz_0, nz_1, nz_2, nz_3, nz_4, nz_5, nz_6, nz_7, nz_8, nz_9, nz_10, nz_11, nz_12, nz_13, nz_14, nz_15, nz_16, nz_17, nz_18, nz_19, nz_20, nz_21, nz_22, nz_23, nz_24, nz_25, nz_26, nz_27, nz_28, nz_29, nz_30, nz_31, nz_32, nz_33, nz_34, nz_35, nz_36, nz_37, nz_38, nz_39, nz_40, nz_41, nz_42, nz_43, nz_44, nz_45, nz_46, nz_47, nz_48, nz_49, nz_50, nz_51, nz_63, nz_64, nz_66, nz_127, nz_128, nz_246, nz_247, nz_248, nz_250, nz_251, nz_252, nz_254, nz_255, nz_256, nz_400, nz_2500]
  rw [zm_mn_e (by omega) (by omega), Option.bind_some, Nat.min_eq_left hl, zu_e, hac, Option.bind_some]
  refine ⟨_, rfl, ?_, ?_, ?_⟩
  · refine (zo_W.up (s := 15) (k := 1) (x := nI W.length) (Or.inl rfl)).tr ?_
    intro s i k a
    by_cases e : s = 16
    · subst e
      rw [ua_i (by omega)]
    · rw [ua_s e]
  · rw [ua_s (by decide), zu_e]
  · intro i hi h4
    rw [ua_e, pk_cpy_in (by omega) (by omega), show 0 + (i - 0) = i by omega, zu_s (by decide)]
    exact h.2 i hi h4
/-- the READER's things are the same -/
def zo_e (M M' : zm_M) : Prop := ∀ s i k, (s = 29 ∧ k ≠ 9) ∨ s = 31 ∨ s = 32 ∨ s = 33 ∨ (22 < s ∧ s < 26 ∧ 50 ≤ i ∧ i < 100) → M' s i k = M s i k
theorem zo_e.rf {M : zm_M} : zo_e M M := fun _ _ _ _ => rfl
theorem zo_e.tr {M M1 M2 : zm_M} (h : zo_e M M1) (h2 : zo_e M1 M2) : zo_e M M2 := fun s i k a => (h2 s i k a).trans (h s i k a)
theorem fl_kn.kept {P : sp_P} {M M' : zm_M} {b : Bool} (h : fl_kn P M b) (h18 : M' 18 = M 18) (h20 : M' 20 = M 20) (hf : ∀ s p, 22 < s → s < 26 → p < 50 → M' s p = M s p) (hn : pg_n P ≤ 50) : fl_kn P M' b := by
  refine ⟨by rw [h18]; exact h.1, by rw [h18]; exact h.2.1, h.2.2.1, ?_⟩
  intro q B hB
  obtain ⟨h1, h2⟩ := h.2.2.2 q B hB
  refine ⟨?_, fun p hp => by rw [h20]; exact h2 p hp⟩
  intro p F hF
  have hp := (hB.1.1 p F hF).1
  exact (h1 p F hF).kept (hf 23 p (by omega) (by omega) (by omega)) (hf 24 p (by omega) (by omega) (by omega)) (hf 25 p (by omega) (by omega) (by omega))
theorem sc_make {P : sp_P} {M : zm_M} (hwP : wf_P P) (hP : rc_P P M) (hk : M 18 0 8 = nI 0 ∨ ∃ b, fl_kn P M b) : ∃ M' x, fn_mf_make [.inr (0, 0)] M = some (x, M') ∧ (∀ s, 34 < s → M' s = M s) ∧ zo_e M M' ∧ rc_P P M' ∧ (∃ b, fl_kn P M' b) ∧ (¬ sp_right P → x = -nI 4 ∧ M' 15 0 = M 15 0 ∧ M' 16 0 = M 16 0 ∧ M' 29 = M 29) ∧ ∀ B, af_least P B → sp_whole P B = true → (400 < (sp_made P B).1.length → x = -nI 3 ∧ M' 15 0 = M 15 0 ∧ M' 16 0 = M 16 0 ∧ M' 29 = M 29) ∧ ((sp_made P B).1.length ≤ 400 → x = nI (sp_made P B).2 ∧ rc_W M' 0 (sp_made P B).1 ∧ M' 29 0 9 = nI 0) := by
  have h50 := hwP.n
  obtain ⟨M1, b, a1, a2, a3⟩ := sc_isRight hwP hP hk
  have hP1 := a2.P hP
  rw [eq_mf_make, a1]
  simp only [Option.bind_some, nz_0, nz_1, nz_2, nz_3, nz_4, nz_5, nz_6, nz_7, nz_8, nz_9, nz_10, nz_11, nz_12, nz_13, nz_14, nz_15, nz_16, nz_17, nz_18, nz_19, nz_20, nz_21, nz_22, nz_23, nz_24, nz_25, nz_26, nz_27, nz_28, nz_29, nz_30, nz_31, nz_32, nz_33, nz_34, nz_35, nz_36, nz_37, nz_38, nz_39, nz_40, nz_41, nz_42, nz_43, nz_44, nz_45, nz_46, nz_47, nz_48, nz_49, nz_50, nz_51, nz_63, nz_64, nz_66, nz_127, nz_128, nz_246, nz_247, nz_248, nz_250, nz_251, nz_252, nz_254, nz_255, nz_256, nz_400, nz_2500, bI_0]
  have up1 : ∀ s, 34 < s → M1 s = M s := fun s hs => by
    funext i k
    exact a2 s i k (by omega)
  have r1 : zo_e M M1 := fun s i k q => a2 s i k (by omega)
  have k15 : M1 15 = M 15 := by funext i k; exact a2 15 i k (by omega)
  have k16 : M1 16 = M 16 := by funext i k; exact a2 16 i k (by omega)
  have k29 : M1 29 = M 29 := by funext i k; exact a2 29 i k (by omega)
  cases b with
  | false =>
    rw [if_pos rfl]
    have hno : ¬ sp_right P := fun q => by have := a3.2.2.1.mpr q; cases this
    refine ⟨M1, _, rfl, up1, r1, hP1, ⟨false, a3⟩, fun _ => ⟨rfl, by rw [k15], by rw [k16], k29⟩, ?_⟩
    intro B hB hw
    exact absurd ⟨B, hB, hw⟩ hno
  | true =>
    rw [if_neg (by decide)]
    obtain ⟨B, hB, hw⟩ := a3.2.2.1.mp rfl
    have uniq : ∀ C, af_least P C → C = B := fun C hC => hC.u hwP.1 hB
    obtain ⟨f1, f2⟩ := a3.2.2.2 rfl B hB
    have hmade := made_le hwP hB hw
    obtain ⟨M2, b1, b2, b3⟩ := sc_writeRows hwP hB.1.1 (wh_all hw) hP1 f1 f2
    have hP2 := b2.P hP1
    have hkn2 : fl_kn P M2 true := a3.kept (by funext i k; exact b2 18 i k (by omega) (by omega) (by omega)) b2.r (fun s p h1 h2 h3 => by funext k; exact b2 s p k (by omega) (by omega) (by omega)) h50
    have up2 : ∀ s, 34 < s → M2 s = M s := fun s hs => by
      rw [← up1 s hs]
      funext i k
      exact b2 s i k (by omega) (by omega) (by omega)
    have r2 : zo_e M M2 := r1.tr fun s i k q => b2 s i k (by omega) (by omega) (by omega)
    rw [b1]
    simp only [Option.bind_some]
    rw [b3.1]
    by_cases e400 : 400 < (sp_made P B).1.length
    · rw [if_pos (ni_lt e400 (by omega) (by omega))]
      refine ⟨M2, _, rfl, up2, r2, hP2, ⟨true, hkn2⟩, fun q => absurd ⟨B, hB, hw⟩ q, ?_⟩
      intro C hC _
      rw [uniq C hC]
      refine ⟨fun _ => ⟨rfl, ?_, ?_, ?_⟩, fun q => by omega⟩
      · rw [← k15]; funext k; exact b2 15 0 k (by omega) (by omega) (by omega)
      · rw [← k16]; funext k; exact b2 16 0 k (by omega) (by omega) (by omega)
      · rw [← k29]; funext i k; exact b2 29 i k (by omega) (by omega) (by omega)
    · rw [if_neg (ni_nl (by omega) (by omega) (by omega))]
      obtain ⟨M3, c1, c2, c3⟩ := sc_by_take b3 (by omega)
      rw [c1, Option.bind_some]
      have hkn3 : fl_kn P (zm_up M3 29 0 9 (nI 0)) true := hkn2.kept (by rw [zu_s (by decide), c2.s (by decide) (by decide)]) (by rw [zu_s (by decide), c2.s (by decide) (by decide)]) (fun s p h1 h2 h3 => by rw [zu_s (by omega), c2.s (by omega) (by omega)]) h50
      refine ⟨_, _, rfl, ?_, ?_, ?_, ⟨true, hkn3⟩, fun q => absurd ⟨B, hB, hw⟩ q, ?_⟩
      · intro s hs
        rw [zu_s (by omega), c2.s (by omega) (by omega)]
        exact up2 s hs
      · refine r2.tr ?_
        intro s i k q
        by_cases e : s = 29
        · subst e
          rw [zu_k (by omega), c2.s (by decide) (by decide)]
        · rw [zu_s e, c2.s (by omega) (by omega)]
      · refine hP2.kept fun s hs => ?_
        rw [zu_s (by omega), c2.s (by omega) (by omega)]
      · intro C hC _
        rw [uniq C hC]
        exact ⟨fun q => absurd q e400, fun _ => ⟨rfl, c3.kept (by rw [zu_s (by decide)]) (by rw [zu_s (by decide)]), zu_e⟩⟩
