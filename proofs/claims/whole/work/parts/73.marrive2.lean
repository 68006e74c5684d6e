theorem af_ch1 {A A' : af_A} {q : Nat} (hq : q < 50) (h : ∀ r, r ≠ q → A' r = A r) : af_ch A A' = !decide (A' q = A q) := by
  unfold af_ch
  by_cases e : A' q = A q
  · rw [decide_eq_true e, Bool.not_true, List.any_eq_false]
    intro r _
    by_cases er : r = q
    · subst er
      simp [e]
    · simp [h r er]
  · rw [decide_eq_false e, Bool.not_false, List.any_eq_true]
    exact ⟨q, List.mem_range.mpr hq, by simp [e]⟩
/-- the end of a coming -/
theorem ar_end {M : zm_M} {q : Nat} {s c : Bool} {v2 : Bool} {d : Int32} {n : Nat} {o4 o5 : Option zm_V} (hq : q < 50) (hd : M 35 0 20 = d) (hc : v2 = false → M 35 0 28 = bI c) : ∃ M', rr_mo_arrive (n + 1) 256 [some (.inr (35, 0)), some (.inl (nI q)), some (.inl (bI v2)), some (.inl d), o4, o5] [.inl (bI s)] M = some M' ∧ zo_q q M M' ∧ M' 49 0 q = nI 1 ∧ M' 50 0 q = bI s ∧ M' 51 0 q = d ∧ M' 52 = M 52 ∧ M' 53 = M 53 ∧ M' 35 0 27 = M 35 0 27 ∧ M' 35 0 28 = bI (c || v2 || !decide (bI s = M 50 0 q)) := by
  have fin : ∀ (M1 : zm_M) (c1 : Bool), (M1 = M ∨ M1 = zm_up M 35 0 28 (nI 1)) → M1 35 0 28 = bI c1 → c1 = (c || v2 || !decide (bI s = M 50 0 q)) → ∃ M', rr_mo_arrive (n + 1) 276 [some (.inr (35, 0)), some (.inl (nI q)), some (.inl (bI v2)), some (.inl (bI s)), o4, o5] [] M1 = some M' ∧ zo_q q M M' ∧ M' 49 0 q = nI 1 ∧ M' 50 0 q = bI s ∧ M' 51 0 q = d ∧ M' 52 = M 52 ∧ M' 53 = M 53 ∧ M' 35 0 27 = M 35 0 27 ∧ M' 35 0 28 = bI (c || v2 || !decide (bI s = M 50 0 q)) := by
    intro M1 c1 hM1 h1 h2
    have z1 : zo_q q M M1 := by
      rcases hM1 with rfl | rfl
      · exact zo_q.rf
      · exact zo_q.up (by omega)
    have s52 : ∀ s, s ≠ 35 → M1 s = M s := by
      intro s hs
      rcases hM1 with rfl | rfl
      · rfl
      · exact zu_s hs
    have s27 : ∀ k, k ≠ 28 → M1 35 0 k = M 35 0 k := by
      intro k hk
      rcases hM1 with rfl | rfl
      · rfl
      · exact zu_k hk
    rw [eq_mo_arrive_276]
    simp only [nz_0, nz_1, nz_2, nz_3, nz_4, nz_5, nz_6, nz_7, nz_8, nz_9, nz_10, nz_11, nz_12, nz_13, nz_14, nz_15, nz_16, nz_17, nz_18, nz_19, nz_20, nz_21, nz_22, nz_23, nz_24, nz_25, nz_26, nz_27, nz_28, nz_29, nz_30, nz_31, nz_32, nz_33, nz_34, nz_35, nz_36, nz_37, nz_38, nz_39, nz_40, nz_41, nz_42, nz_43, nz_44, nz_45, nz_46, nz_47, nz_48, nz_49, nz_50, nz_51, nz_63, nz_64, nz_66, nz_127, nz_128, nz_246, nz_247, nz_248, nz_250, nz_251, nz_252, nz_254, nz_255, nz_256, nz_400, nz_2500]
    rw [nI_clamp (by omega)]
    simp only [if_neg (ni_in hq (show q < 2 ^ 31 by omega))]
    rw [show bI s &&& nI 1 = bI s by cases s <;> decide, show nI 1 &&& nI 1 = nI 1 by decide, s27 20 (by decide), hd]
    refine ⟨_, rfl, ((z1.tr (zo_q.up (by omega))).tr (zo_q.up (by omega))).tr (zo_q.up (by omega)), ?_, ?_, ?_, ?_, ?_, ?_, ?_⟩
    · rw [zu_s (by decide), zu_e]
    · rw [zu_s (by decide), zu_s (by decide), zu_e]
    · rw [zu_e]
    · rw [zu_s (by decide), zu_s (by decide), zu_s (by decide), s52 52 (by decide)]
    · rw [zu_s (by decide), zu_s (by decide), zu_s (by decide), s52 53 (by decide)]
    · rw [zu_s (by decide), zu_s (by decide), zu_s (by decide), s27 27 (by decide)]
    · rw [zu_s (by decide), zu_s (by decide), zu_s (by decide), h1, h2]
  rw [eq_mo_arrive_256]
  simp only [nz_0, nz_1, nz_2, nz_3, nz_4, nz_5, nz_6, nz_7, nz_8, nz_9, nz_10, nz_11, nz_12, nz_13, nz_14, nz_15, nz_16, nz_17, nz_18, nz_19, nz_20, nz_21, nz_22, nz_23, nz_24, nz_25, nz_26, nz_27, nz_28, nz_29, nz_30, nz_31, nz_32, nz_33, nz_34, nz_35, nz_36, nz_37, nz_38, nz_39, nz_40, nz_41, nz_42, nz_43, nz_44, nz_45, nz_46, nz_47, nz_48, nz_49, nz_50, nz_51, nz_63, nz_64, nz_66, nz_127, nz_128, nz_246, nz_247, nz_248, nz_250, nz_251, nz_252, nz_254, nz_255, nz_256, nz_400, nz_2500]
  rw [nI_clamp (by omega)]
  simp only [if_neg (ni_in hq (show q < 2 ^ 31 by omega)), eq_mo_arrive_271, nz_0, nz_1, nz_2, nz_3, nz_4, nz_5, nz_6, nz_7, nz_8, nz_9, nz_10, nz_11, nz_12, nz_13, nz_14, nz_15, nz_16, nz_17, nz_18, nz_19, nz_20, nz_21, nz_22, nz_23, nz_24, nz_25, nz_26, nz_27, nz_28, nz_29, nz_30, nz_31, nz_32, nz_33, nz_34, nz_35, nz_36, nz_37, nz_38, nz_39, nz_40, nz_41, nz_42, nz_43, nz_44, nz_45, nz_46, nz_47, nz_48, nz_49, nz_50, nz_51, nz_63, nz_64, nz_66, nz_127, nz_128, nz_246, nz_247, nz_248, nz_250, nz_251, nz_252, nz_254, nz_255, nz_256, nz_400, nz_2500]
  cases v2 with
  | true =>
    rw [if_neg (by decide)]
    exact fin _ true (Or.inr rfl) zu_e (by simp)
  | false =>
    rw [if_pos (by decide)]
    by_cases e : bI s = M 50 0 q
    · rw [if_pos e]
      exact fin M c (Or.inl rfl) (hc rfl) (by simp [e])
    · rw [if_neg e]
      exact fin _ true (Or.inr rfl) zu_e (by simp [e])
theorem bI_inj {a b : Bool} : bI a = bI b ↔ a = b := by
  cases a <;> cases b <;> decide
/-- a coming to a new PLACE -/
theorem sm_arr_f {M : zm_M} {q : Nat} {F : sp_F} {n : Nat} (hq : q < 50) (hF : rm_F M F) (oF : ok_8 F) (hn : 30 < n) : ∃ M', rr_mo_arrive (n + 1) 50 [some (.inr (35, 0)), some (.inl (nI q)), none, none, none, none] [.inl (nI 1)] M = some M' ∧ zo_q q M M' ∧ M' 49 0 q = nI 1 ∧ rm_G M' q F ∧ M' 35 0 27 = M 35 0 27 ∧ M' 35 0 28 = nI 1 := by
  have hl := rm_len hF
  have hd : M 35 0 20 = nI F.2.1.length := hF.1.2.2.1
  have hr : M 35 0 21 = bI F.2.2 := hF.1.2.2.2.2
  rw [eq_mo_arrive_50]
  simp only [nz_0, nz_1, nz_2, nz_3, nz_4, nz_5, nz_6, nz_7, nz_8, nz_9, nz_10, nz_11, nz_12, nz_13, nz_14, nz_15, nz_16, nz_17, nz_18, nz_19, nz_20, nz_21, nz_22, nz_23, nz_24, nz_25, nz_26, nz_27, nz_28, nz_29, nz_30, nz_31, nz_32, nz_33, nz_34, nz_35, nz_36, nz_37, nz_38, nz_39, nz_40, nz_41, nz_42, nz_43, nz_44, nz_45, nz_46, nz_47, nz_48, nz_49, nz_50, nz_51, nz_63, nz_64, nz_66, nz_127, nz_128, nz_246, nz_247, nz_248, nz_250, nz_251, nz_252, nz_254, nz_255, nz_256, nz_400, nz_2500]
  obtain ⟨M1, n1, p1, p2, a1, a2, a3, a4, a5⟩ := al_f hq 10 0 (n + 1) M none none (by omega) (by omega) (fun j hj => by omega)
  obtain ⟨M2, n2, p3, p4, b1, b3, b6, b4, b5⟩ := as_f (d := F.2.1.length) hq hl (A := fun j => F.2.1.getD (F.2.1.length - 1 - j) 0) (fun j hj => by
    have hm := gd_mem (show F.2.1.length - 1 - j < F.2.1.length by omega)
    exact ⟨oF.1.2.2.1 _ hm, by have := sp_wt_lt (oF.1.1.2 _ hm); omega⟩) F.2.1.length 0 (n1 + 1) M1 p1 p2 (by omega) (by omega) (by rw [a3 35 0 20 (by omega) (by omega) (by omega) (by omega)]; exact hd) (by
    intro j hj
    rw [a3 48 0 j (by omega) (by omega) (by omega) (by omega)]
    exact hF.1.2.2.2.1 j hj) (fun j hj => by omega)
  have z2 := a3.tr b3
  have d2 : M2 35 0 20 = nI F.2.1.length := by rw [z2 35 0 20 (by omega) (by omega) (by omega) (by omega)]; exact hd
  have r2 : M2 35 0 21 = bI F.2.2 := by rw [z2 35 0 21 (by omega) (by omega) (by omega) (by omega)]; exact hr
  rw [a1, b1, eq_mo_arrive_137, d2]
  simp only [nz_0, nz_1, nz_2, nz_3, nz_4, nz_5, nz_6, nz_7, nz_8, nz_9, nz_10, nz_11, nz_12, nz_13, nz_14, nz_15, nz_16, nz_17, nz_18, nz_19, nz_20, nz_21, nz_22, nz_23, nz_24, nz_25, nz_26, nz_27, nz_28, nz_29, nz_30, nz_31, nz_32, nz_33, nz_34, nz_35, nz_36, nz_37, nz_38, nz_39, nz_40, nz_41, nz_42, nz_43, nz_44, nz_45, nz_46, nz_47, nz_48, nz_49, nz_50, nz_51, nz_63, nz_64, nz_66, nz_127, nz_128, nz_246, nz_247, nz_248, nz_250, nz_251, nz_252, nz_254, nz_255, nz_256, nz_400, nz_2500]
  rw [if_neg (ni_nl (Nat.le_refl _) (by omega) (by omega)), r2]
  have goal : ∃ M', rr_mo_arrive (n2 + 1) 256 [some (.inr (35, 0)), some (.inl (nI q)), some (.inl (bI true)), some (.inl (nI F.2.1.length)), p3, p4] [.inl (bI F.2.2)] M2 = some M' ∧ zo_q q M M' ∧ M' 49 0 q = nI 1 ∧ rm_G M' q F ∧ M' 35 0 27 = M 35 0 27 ∧ M' 35 0 28 = nI 1 := by
    obtain ⟨M', e1, e2, e3, e4, e5, e6, e7, e8, e9⟩ := ar_end (n := n2) (s := F.2.2) (v2 := true) (c := false) (o4 := p3) (o5 := p4) hq d2 (fun q => by cases q)
    refine ⟨M', e1, z2.tr e2, e3, ⟨hF.1.1, ?_, e5, ?_, e4⟩, by rw [e8, b5, a5], ?_⟩
    · intro j hj
      show M' 52 0 (10 * q + j) = _
      rw [e6, b6, a4 j hj]
      exact hF.1.2.1 j hj
    · intro j hj
      show M' 53 0 (8 * q + j) = _
      rw [e7, b4 j hj]
    · rw [e9]
      simp [bI]
  cases hb : F.2.2 with
  | true =>
    rw [if_neg (by decide), eq_mo_arrive_251]
    rw [hb] at goal
    exact goal
  | false =>
    rw [if_pos (by decide), if_neg (by decide), eq_mo_arrive_255]
    rw [hb] at goal
    exact goal
/-- a coming to a PLACE that has a FRAME -/
theorem sm_arr_j {P : sp_P} {M : zm_M} {q : Nat} {G F : sp_F} {n : Nat} {c r : Bool} (hwP : wf_P P) (hP : rm_P P M) (hq : q < 50) (hG : rm_G M q G) (oG : ok_8 G) (hF : rm_F M F) (oF : ok_8 F) (hn : 30 < n) (hl : G.2.1.length = F.2.1.length) (hc : M 35 0 28 = bI c) (hr27 : M 35 0 27 = bI r) : ∃ M', rr_mo_arrive (n + 1) 50 [some (.inr (35, 0)), some (.inl (nI q)), none, none, none, none] [.inl (nI 0)] M = some M' ∧ zo_q q M M' ∧ M' 49 0 q = nI 1 ∧ M' 35 0 27 = bI (r && (af_jn P G F).isSome) ∧ ∀ H, af_jn P G F = some H → rm_G M' q H ∧ M' 35 0 28 = bI (c || !decide (H = G)) := by
  obtain ⟨L, T, b⟩ := G
  obtain ⟨K, U, u⟩ := F
  have hl : T.length = U.length := hl
  have hUl : U.length ≤ 8 := rm_len hF
  have hd : M 35 0 20 = nI U.length := hF.1.2.2.1
  have hr : M 35 0 21 = bI u := hF.1.2.2.2.2
  have h50 : M 50 0 q = bI b := hG.2.2.2.2
  rw [eq_mo_arrive_50]
  simp only [nz_0, nz_1, nz_2, nz_3, nz_4, nz_5, nz_6, nz_7, nz_8, nz_9, nz_10, nz_11, nz_12, nz_13, nz_14, nz_15, nz_16, nz_17, nz_18, nz_19, nz_20, nz_21, nz_22, nz_23, nz_24, nz_25, nz_26, nz_27, nz_28, nz_29, nz_30, nz_31, nz_32, nz_33, nz_34, nz_35, nz_36, nz_37, nz_38, nz_39, nz_40, nz_41, nz_42, nz_43, nz_44, nz_45, nz_46, nz_47, nz_48, nz_49, nz_50, nz_51, nz_63, nz_64, nz_66, nz_127, nz_128, nz_246, nz_247, nz_248, nz_250, nz_251, nz_252, nz_254, nz_255, nz_256, nz_400, nz_2500]
  obtain ⟨M1, n1, p1, p2, a1, a2, a3, a4, a5, a6, a7, a8⟩ := al_j hwP hq (L := L) (K := K) oG.1.2.1 oF.1.2.1 oG.1.1.1 oF.1.1.1 10 0 (n + 1) M c none none (by omega) (by omega) hP.1 (by
    intro j hj
    rw [if_neg (by omega)]
    exact hG.2.1 j hj) (by
    intro j hj
    exact hF.1.2.1 j hj) hc
  have hP1 := a3.A.P hP
  have hrv : zj P T.reverse U.reverse = (zj P T U).reverse := zj_rev hl
  obtain ⟨M2, n2, p3, p4, b1, b3, b4, b5, b6, b7, b8⟩ := as_j hwP hq (A := T.reverse) (B := U.reverse) (d := U.length) (by simp [hl]) (by simp) hUl (by simpa using oG.1.1.2) (by simpa using oF.1.1.2) U.length 0 (n1 + 1) M1 (c || !decide ((zj P L K).drop 0 = L.drop 0)) r p1 p2 (by omega) (by omega) hP1.1 (by rw [a3 35 0 20 (by omega) (by omega) (by omega) (by omega)]; exact hd) (by
    intro j hj
    rw [if_neg (by omega), a5, gd_rev (by omega)]
    exact hG.2.2.2.1 j (by show j < T.length; omega)) (by
    intro j hj
    rw [a3 48 0 j (by omega) (by omega) (by omega) (by omega), gd_rev hj]
    exact hF.1.2.2.2.1 j hj) a8 (by rw [a7]; exact hr27)
  have z2 := a3.tr b3
  have d2 : M2 35 0 20 = nI U.length := by rw [z2 35 0 20 (by omega) (by omega) (by omega) (by omega)]; exact hd
  have r2 : M2 35 0 21 = bI u := by rw [z2 35 0 21 (by omega) (by omega) (by omega) (by omega)]; exact hr
  have q2 : M2 50 0 q = bI b := by rw [b5, a6]; exact h50
  rw [a1, b1, eq_mo_arrive_137, d2]
  simp only [nz_0, nz_1, nz_2, nz_3, nz_4, nz_5, nz_6, nz_7, nz_8, nz_9, nz_10, nz_11, nz_12, nz_13, nz_14, nz_15, nz_16, nz_17, nz_18, nz_19, nz_20, nz_21, nz_22, nz_23, nz_24, nz_25, nz_26, nz_27, nz_28, nz_29, nz_30, nz_31, nz_32, nz_33, nz_34, nz_35, nz_36, nz_37, nz_38, nz_39, nz_40, nz_41, nz_42, nz_43, nz_44, nz_45, nz_46, nz_47, nz_48, nz_49, nz_50, nz_51, nz_63, nz_64, nz_66, nz_127, nz_128, nz_246, nz_247, nz_248, nz_250, nz_251, nz_252, nz_254, nz_255, nz_256, nz_400, nz_2500]
  rw [if_neg (ni_nl (Nat.le_refl _) (by omega) (by omega)), r2, nI_clamp (by omega)]
  simp only [if_neg (ni_in hq (show q < 2 ^ 31 by omega))]
  rw [q2]
  have hj : af_jn P (L, T, b) (K, U, u) = if 0 ∈ zj P T U then none else some (zj P L K, zj P T U, b || u) := by
    unfold af_jn
    rw [if_pos hl]
  have hmem : (0 ∈ (zj P T.reverse U.reverse).drop 0) ↔ 0 ∈ zj P T U := by rw [List.drop_zero, hrv, List.mem_reverse]
  have goal : ∃ M', rr_mo_arrive (n2 + 1) 256 [some (.inr (35, 0)), some (.inl (nI q)), some (.inl (bI false)), some (.inl (nI U.length)), p3, p4] [.inl (bI (b || u))] M2 = some M' ∧ zo_q q M M' ∧ M' 49 0 q = nI 1 ∧ M' 35 0 27 = bI (r && (af_jn P (L, T, b) (K, U, u)).isSome) ∧ ∀ H, af_jn P (L, T, b) (K, U, u) = some H → rm_G M' q H ∧ M' 35 0 28 = bI (c || !decide (H = (L, T, b))) := by
    obtain ⟨M', e1, e2, e3, e4, e5, e6, e7, e8, e9⟩ := ar_end (n := n2) (s := b || u) (v2 := false) (o4 := p3) (o5 := p4) hq d2 (fun _ => b8)
    refine ⟨M', e1, z2.tr e2, e3, ?_, ?_⟩
    · rw [e8, b7, hj]
      by_cases e : 0 ∈ zj P T U
      · rw [if_pos e, decide_eq_true (hmem.mpr e)]
        rfl
      · rw [if_neg e, decide_eq_false (fun q => e (hmem.mp q))]
        rfl
    · intro H hH
      rw [hj] at hH
      by_cases e : 0 ∈ zj P T U
      · rw [if_pos e] at hH
        cases hH
      · rw [if_neg e] at hH
        cases hH
        have hzl : (zj P T U).length = T.length := zj_len hl
        refine ⟨⟨?_, ?_, ?_, ?_, e4⟩, ?_⟩
        · show (zj P L K).length = 10
          rw [zj_len (by rw [oG.1.2.1, oF.1.2.1])]
          exact oG.1.2.1
        · intro j hj
          show M' 52 0 (10 * q + j) = nI ((zj P L K).getD j 0)
          rw [e6, b4]
          exact a4 j hj
        · show M' 51 0 q = nI (zj P T U).length
          rw [e5, hzl, hl]
        · intro j hj
          have hj2 : j < T.length := by rw [← hzl]; exact hj
          show M' 53 0 (8 * q + j) = nI ((zj P T U).getD ((zj P T U).length - 1 - j) 0)
          rw [e7, b6 j (by omega), hrv, gd_rev (by omega)]
        · rw [e9, q2]
          congr 1
          rw [List.drop_zero, List.drop_zero, List.drop_zero, List.drop_zero, hrv]
          simp only [bI_inj]
          by_cases e1 : zj P L K = L
          · by_cases e2 : zj P T U = T
            · by_cases e3 : (b || u) = b
              · simp [e1, e2, e3]
              · simp [e1, e2, e3]
            · simp [e1, e2]
          · simp [e1]
  cases hu : u with
  | true =>
    rw [if_neg (by decide), eq_mo_arrive_251]
    rw [hu, Bool.or_true] at goal
    exact goal
  | false =>
    rw [hu, Bool.or_false] at goal
    rw [if_pos (by decide), if_pos trivial]
    cases hb : b with
    | true =>
      rw [if_neg (by decide), eq_mo_arrive_251]
      rw [hb] at goal
      exact goal
    | false =>
      rw [if_pos (by decide), eq_mo_arrive_255]
      rw [hb] at goal
      exact goal
theorem sm_arrive {P : sp_P} {M : zm_M} {A : af_A} {q : Nat} {F : sp_F} {c : Bool} (hwP : wf_P P) (hP : rm_P P M) (hS : rm_S M A) (hA : af_ok P A) (hF : rm_F M F) (oF : ok_8 F) (hq : q ≤ 50) (hc : M 35 0 28 = bI c) (hr : M 35 0 27 = nI 1) : ∃ M', fn_mo_arrive [.inr (35, 0), .inl (nI q)] M = some M' ∧ zo_A M M' ∧ M' 35 0 27 = bI (af_arr P A q F).isSome ∧ ∀ A', af_arr P A q F = some A' → rm_S M' A' ∧ M' 35 0 28 = bI (c || af_ch A A') := by
  have h50 := hwP.n
  have hUl := rm_len hF
  have hd : M 35 0 20 = nI F.2.1.length := hF.1.2.2.1
  rw [eq_mo_arrive, show (1073741824 : Nat) = 1073741823 + 1 from rfl, eq_mo_arrive_0, hP.n]
  simp only [nz_0, nz_1, nz_2, nz_3, nz_4, nz_5, nz_6, nz_7, nz_8, nz_9, nz_10, nz_11, nz_12, nz_13, nz_14, nz_15, nz_16, nz_17, nz_18, nz_19, nz_20, nz_21, nz_22, nz_23, nz_24, nz_25, nz_26, nz_27, nz_28, nz_29, nz_30, nz_31, nz_32, nz_33, nz_34, nz_35, nz_36, nz_37, nz_38, nz_39, nz_40, nz_41, nz_42, nz_43, nz_44, nz_45, nz_46, nz_47, nz_48, nz_49, nz_50, nz_51, nz_63, nz_64, nz_66, nz_127, nz_128, nz_246, nz_247, nz_248, nz_250, nz_251, nz_252, nz_254, nz_255, nz_256, nz_400, nz_2500]
  have fail : ∀ {X : Option af_A}, X = none → ∃ M', rr_mo_arrive (1073741823 + 1) 30 [some (.inr (35, 0)), some (.inl (nI q)), none, none, none, none] [] M = some M' ∧ zo_A M M' ∧ M' 35 0 27 = bI X.isSome ∧ ∀ A', X = some A' → rm_S M' A' ∧ M' 35 0 28 = bI (c || af_ch A A') := by
    rintro X rfl
    rw [eq_mo_arrive_30]
    simp only [nz_0, nz_1, nz_2, nz_3, nz_4, nz_5, nz_6, nz_7, nz_8, nz_9, nz_10, nz_11, nz_12, nz_13, nz_14, nz_15, nz_16, nz_17, nz_18, nz_19, nz_20, nz_21, nz_22, nz_23, nz_24, nz_25, nz_26, nz_27, nz_28, nz_29, nz_30, nz_31, nz_32, nz_33, nz_34, nz_35, nz_36, nz_37, nz_38, nz_39, nz_40, nz_41, nz_42, nz_43, nz_44, nz_45, nz_46, nz_47, nz_48, nz_49, nz_50, nz_51, nz_63, nz_64, nz_66, nz_127, nz_128, nz_246, nz_247, nz_248, nz_250, nz_251, nz_252, nz_254, nz_255, nz_256, nz_400, nz_2500]
    exact ⟨_, rfl, (zo_q.up (q := 0) (by omega)).A, zu_e, fun A' h => by cases h⟩
  by_cases e : q < pg_n P
  · obtain ⟨s1, s2⟩ := hS q (by omega)
    rw [if_pos (ni_lt e (by omega) (by omega)), nI_clamp (by omega)]
    simp only [if_neg (ni_in (show q < 50 by omega) (show q < 2 ^ 31 by omega))]
    rw [s1]
    cases hAq : A q with
    | none =>
      have ha : af_arr P A q F = some (af_up A q F) := by
        unfold af_arr
        rw [if_pos e, hAq]
      rw [if_pos (by decide), eq_mo_arrive_36]
      simp only [nz_0, nz_1, nz_2, nz_3, nz_4, nz_5, nz_6, nz_7, nz_8, nz_9, nz_10, nz_11, nz_12, nz_13, nz_14, nz_15, nz_16, nz_17, nz_18, nz_19, nz_20, nz_21, nz_22, nz_23, nz_24, nz_25, nz_26, nz_27, nz_28, nz_29, nz_30, nz_31, nz_32, nz_33, nz_34, nz_35, nz_36, nz_37, nz_38, nz_39, nz_40, nz_41, nz_42, nz_43, nz_44, nz_45, nz_46, nz_47, nz_48, nz_49, nz_50, nz_51, nz_63, nz_64, nz_66, nz_127, nz_128, nz_246, nz_247, nz_248, nz_250, nz_251, nz_252, nz_254, nz_255, nz_256, nz_400, nz_2500]
      rw [nI_clamp (by omega), if_neg (ni_in (show q < 50 by omega) (by omega)), s1, hAq, if_pos (by decide)]
      obtain ⟨M', e1, e2, e3, e4, e5, e6⟩ := sm_arr_f (n := 1073741823) (show q < 50 by omega) hF oF (by omega)
      rw [e1, ha]
      refine ⟨M', rfl, e2.A, by rw [e5, hr]; rfl, ?_⟩
      intro A' hA'
      cases hA'
      refine ⟨?_, ?_⟩
      · intro r hr
        by_cases er : r = q
        · subst er
          rw [af_up_e]
          exact ⟨e3, fun G hG => by cases hG; exact e4⟩
        · obtain ⟨r1, r2⟩ := hS r hr
          rw [af_up_n _ _ er]
          refine ⟨?_, ?_⟩
          · rw [e2 49 0 r (by omega) (by omega) (by omega) (by omega)]
            exact r1
          · intro G hG
            exact e2.G er (Nat.le_trans (sp_sl_len _) (hA r G hG).2.2) (r2 G hG)
      · rw [e6, af_ch1 (q := q) (by omega) (fun r hr => af_up_n _ _ hr), af_up_e, hAq]
        simp [bI]
    | some G =>
      have oG := (hA q G hAq).2
      have hG := s2 G hAq
      have hdG : M 51 0 q = nI G.2.1.length := hG.2.2.1
      have hGl : G.2.1.length ≤ 8 := Nat.le_trans (sp_sl_len _) oG.2
      rw [if_neg (by rw [Option.isSome_some]; decide), hdG, hd]
      have ha : af_arr P A q F = (af_jn P G F).map (af_up A q) := by
        unfold af_arr
        rw [if_pos e, hAq]
      by_cases hl : G.2.1.length = F.2.1.length
      · rw [if_pos (by rw [hl]), eq_mo_arrive_36]
        simp only [nz_0, nz_1, nz_2, nz_3, nz_4, nz_5, nz_6, nz_7, nz_8, nz_9, nz_10, nz_11, nz_12, nz_13, nz_14, nz_15, nz_16, nz_17, nz_18, nz_19, nz_20, nz_21, nz_22, nz_23, nz_24, nz_25, nz_26, nz_27, nz_28, nz_29, nz_30, nz_31, nz_32, nz_33, nz_34, nz_35, nz_36, nz_37, nz_38, nz_39, nz_40, nz_41, nz_42, nz_43, nz_44, nz_45, nz_46, nz_47, nz_48, nz_49, nz_50, nz_51, nz_63, nz_64, nz_66, nz_127, nz_128, nz_246, nz_247, nz_248, nz_250, nz_251, nz_252, nz_254, nz_255, nz_256, nz_400, nz_2500]
        rw [nI_clamp (by omega), if_neg (ni_in (show q < 50 by omega) (by omega)), s1, hAq, if_neg (by rw [Option.isSome_some]; decide)]
        obtain ⟨M', e1, e2, e3, e4, e5⟩ := sm_arr_j (n := 1073741823) (r := true) hwP hP (show q < 50 by omega) hG oG hF oF (by omega) hl hc hr
        rw [e1, ha]
        refine ⟨M', rfl, e2.A, ?_, ?_⟩
        · rw [e4, Bool.true_and, Option.isSome_map]
        · intro A' hA'
          rw [Option.map_eq_some_iff] at hA'
          obtain ⟨H, h1, rfl⟩ := hA'
          obtain ⟨u1, u2⟩ := e5 H h1
          refine ⟨?_, ?_⟩
          · intro r hr
            by_cases er : r = q
            · subst er
              rw [af_up_e]
              exact ⟨e3, fun K hK => by cases hK; exact u1⟩
            · obtain ⟨r1, r2⟩ := hS r hr
              rw [af_up_n _ _ er]
              refine ⟨?_, ?_⟩
              · rw [e2 49 0 r (by omega) (by omega) (by omega) (by omega)]
                exact r1
              · intro K hK
                exact e2.G er (Nat.le_trans (sp_sl_len _) (hA r K hK).2.2) (r2 K hK)
          · rw [u2, af_ch1 (q := q) (by omega) (fun r hr => af_up_n _ _ hr), af_up_e, hAq]
            congr 2
            simp
      · rw [if_neg (ni_ne hl (by omega) (by omega))]
        refine fail ?_
        rw [ha]
        unfold af_jn
        rw [if_neg hl]
        rfl
  · rw [if_neg (ni_nl (by omega) (by omega) (by omega))]
    refine fail ?_
    unfold af_arr
    rw [if_neg e]
