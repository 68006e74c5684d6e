theorem gd_rev {T : List Nat} {i : Nat} (h : i < T.length) : T.reverse.getD i 0 = T.getD (T.length - 1 - i) 0 := by
  rw [List.getD_eq_getElem?_getD, List.getElem?_reverse h, List.getD_eq_getElem?_getD]
theorem zj_rev {P : sp_P} : ∀ {T U : List Nat}, T.length = U.length → zj P T.reverse U.reverse = (zj P T U).reverse := by
  intro T U h
  apply List.ext_getElem?
  intro i
  have hl : (zj P T U).length = T.length := zj_len h
  have hl2 : (zj P T.reverse U.reverse).length = T.length := by rw [zj_len (by simpa using h)]; simp
  by_cases hi : i < T.length
  · have e1 : (zj P T.reverse U.reverse).getD i 0 = (zj P T U).reverse.getD i 0 := by
      rw [zj_gd (by simpa using hi) (by simpa [← h] using hi), gd_rev hi, gd_rev (by omega), gd_rev (by omega), hl, zj_gd (by omega) (by omega), h]
    rw [List.getD_eq_getElem?_getD, List.getD_eq_getElem?_getD, List.getElem?_eq_getElem (by omega), List.getElem?_eq_getElem (by simp; omega)] at e1
    rw [List.getElem?_eq_getElem (by omega), List.getElem?_eq_getElem (by simp; omega)]
    exact congrArg some e1
  · rw [List.getElem?_eq_none (by omega), List.getElem?_eq_none (by simp; omega)]
theorem sc_js {P : sp_P} (hwP : wf_P P) {p d : Nat} (hp : p < 50) {A B : List Nat} (hA : A.length = d) (hB : B.length = d) (h8 : d ≤ 8) (wA : ∀ t ∈ A, sp_wt t) (wB : ∀ t ∈ B, sp_wt t) : ∀ (k i n : Nat) (M : zm_M) (w : Bool) (o5 : Option zm_V), i + k = d → k < n → rc_C P M → M 23 p 2 = nI d → (∀ j, j < d → M 25 p j = nI (if j < i then (zj P A B).getD j 0 else A.getD j 0)) → (∀ j, j < d → M 25 100 j = nI (B.getD j 0)) → M 22 0 p = bI w → ∃ M', rr_fl_joinAt n 123 [some (.inr (18, 0)), some (.inl (nI p)), some (.inr (23, 100)), some (.inr (23, p)), some (.inl (nI i)), o5] [] M = some (bI (!decide (0 ∈ (zj P A B).drop i)), M') ∧ zo_p p M M' ∧ M' 21 = M 21 ∧ M' 23 = M 23 ∧ M' 24 = M 24 ∧ (0 ∉ (zj P A B).drop i → (∀ j, j < d → M' 25 p j = nI ((zj P A B).getD j 0)) ∧ M' 22 0 p = bI (w || !decide ((zj P A B).drop i = A.drop i))) := by
  have hzl : (zj P A B).length = d := by rw [zj_len (by rw [hA, hB]), hA]
  intro k
  induction k with
  | zero =>
    intro i n M w o5 hi hn hC hd h1 h2 h3
    obtain ⟨n, rfl⟩ : ∃ m, n = m + 1 := ⟨n - 1, by omega⟩
    rw [eq_fl_joinAt_123, hd, if_neg (ni_nl (by omega) (by omega) (by omega)), List.drop_eq_nil_of_le (by omega), List.drop_eq_nil_of_le (by omega)]
    refine ⟨M, rfl, zo_p.rf, rfl, rfl, rfl, fun _ => ⟨?_, ?_⟩⟩
    · intro j hj
      rw [h1 j hj, if_pos (by omega)]
    · simpa using h3
  | succ k ih =>
    intro i n M w o5 hi hn hC hd h1 h2 h3
    obtain ⟨n, rfl⟩ : ∃ m, n = m + 1 := ⟨n - 1, by omega⟩
    have wi := wt_gd wA i
    have ki := wt_gd wB i
    have ji := jn_wt hwP.1 wi ki
    have jl := sp_wt_lt ji
    have ll := sp_wt_lt wi
    have hz : (zj P A B).getD i 0 = sp_jn P (A.getD i 0) (B.getD i 0) := zj_gd (by omega) (by omega)
    have hMi := h1 i (by omega)
    rw [if_neg (by omega)] at hMi
    have hdr := dr_c (show i < (zj P A B).length by omega)
    rw [eq_fl_joinAt_123, hd]
    simp only [nz_0, nz_1, nz_2, nz_3, nz_4, nz_5, nz_6, nz_7, nz_8, nz_9, nz_10, nz_11, nz_12, nz_13, nz_14, nz_15, nz_16, nz_17, nz_18, nz_19, nz_20, nz_21, nz_22, nz_23, nz_24, nz_25, nz_26, nz_27, nz_28, nz_29, nz_30, nz_31, nz_32, nz_33, nz_34, nz_35, nz_36, nz_37, nz_38, nz_39, nz_40, nz_41, nz_42, nz_43, nz_44, nz_45, nz_46, nz_47, nz_48, nz_49, nz_50, nz_51, nz_63, nz_64, nz_66, nz_127, nz_128, nz_246, nz_247, nz_248, nz_250, nz_251, nz_252, nz_254, nz_255, nz_256, nz_400, nz_2500, nI_add]
    rw [if_pos (ni_lt (by omega) (by omega) (by omega)), nI_clamp (by omega), nI_clamp (by omega), if_neg (ni_in (show i < 8 by omega) (by omega)), if_neg (ni_in (show i < 8 by omega) (by omega)), hMi, h2 i (by omega), sc_join hwP.1 hC wi ki]
    simp only [Option.bind_some]
    rw [if_neg (ni_in hp (by omega)), if_neg (ni_in (show i < 8 by omega) (by omega)), hMi, h3]
    by_cases e0 : sp_jn P (A.getD i 0) (B.getD i 0) = 0
    · rw [if_pos (by rw [e0])]
      have hin : 0 ∈ (zj P A B).drop i := by
        rw [hdr, hz, e0]
        exact List.mem_cons_self
      refine ⟨M, ?_, zo_p.rf, rfl, rfl, rfl, fun q => absurd hin q⟩
      rw [decide_eq_true hin]
      rfl
    · rw [if_neg (ni_ne e0 (by omega) (by omega))]
      have hin : 0 ∈ (zj P A B).drop i ↔ 0 ∈ (zj P A B).drop (i + 1) := by
        rw [hdr, hz, List.mem_cons]
        constructor
        · rintro (q | q)
          · exact absurd q.symm e0
          · exact q
        · exact Or.inr
      have key : ∀ (w1 : Bool), w1 = (w || !decide ((zj P A B).getD i 0 = A.getD i 0)) → ∃ M', rr_fl_joinAt n 123 [some (.inr (18, 0)), some (.inl (nI p)), some (.inr (23, 100)), some (.inr (23, p)), some (.inl (nI (i + 1))), some (.inl (nI (sp_jn P (A.getD i 0) (B.getD i 0))))] [] (zm_up (zm_up M 22 0 p (bI w1)) 25 p i (nI (sp_jn P (A.getD i 0) (B.getD i 0)))) = some (bI (!decide (0 ∈ (zj P A B).drop i)), M') ∧ zo_p p M M' ∧ M' 21 = M 21 ∧ M' 23 = M 23 ∧ M' 24 = M 24 ∧ (0 ∉ (zj P A B).drop i → (∀ j, j < d → M' 25 p j = nI ((zj P A B).getD j 0)) ∧ M' 22 0 p = bI (w || !decide ((zj P A B).drop i = A.drop i))) := by
        intro w1 hw1
        obtain ⟨M', r1, r3, r4, r5, r6, r7⟩ := ih (i + 1) n (zm_up (zm_up M 22 0 p (bI w1)) 25 p i (nI (sp_jn P (A.getD i 0) (B.getD i 0)))) w1 (some (.inl (nI (sp_jn P (A.getD i 0) (B.getD i 0))))) (by omega) (by omega) (by
            unfold rc_C at hC ⊢
            rw [zu_s (by decide), zu_s (by decide), zu_s (by decide), zu_s (by decide), zu_s (by decide), zu_s (by decide)]
            exact hC) (by rw [zu_s (by decide), zu_s (by decide)]; exact hd) (by
            intro j hj
            by_cases e : j = i
            · subst e
              rw [zu_e, if_pos (by omega), hz]
            · rw [zu_k e, zu_s (by decide), h1 j hj]
              by_cases e2 : j < i
              · rw [if_pos e2, if_pos (by omega)]
              · rw [if_neg e2, if_neg (by omega)]) (by
            intro j hj
            rw [zu_i (by omega), zu_s (by decide)]
            exact h2 j hj) (by
            rw [zu_s (by decide), zu_e])
        refine ⟨M', ?_, (zo_p.w.tr (zo_p.a (by omega))).tr r3, ?_, ?_, ?_, ?_⟩
        · rw [r1]
          simp only [hin]
        · rw [r4, zu_s (by decide), zu_s (by decide)]
        · rw [r5, zu_s (by decide), zu_s (by decide)]
        · rw [r6, zu_s (by decide), zu_s (by decide)]
        · intro q
          obtain ⟨s1, s2⟩ := r7 (fun x => q (hin.mpr x))
          refine ⟨s1, ?_⟩
          rw [s2, hw1, hdr, dr_c (show i < A.length by omega), dec_c, Bool.or_assoc]
      by_cases e : sp_jn P (A.getD i 0) (B.getD i 0) = A.getD i 0
      · rw [if_pos (by rw [e]), if_neg (ni_in hp (by omega)), if_neg (ni_in (show i < 8 by omega) (by omega)), fl_or0]
        exact key w (by simp only [hz, e, decide_true, Bool.not_true, Bool.or_false])
      · rw [if_neg (ni_ne e (by omega) (by omega)), if_neg (ni_in hp (by omega)), if_neg (ni_in (show i < 8 by omega) (by omega)), fl_or1]
        exact key true (by simp only [hz, e, decide_false, Bool.not_false, Bool.or_true])
theorem sc_joinAt {P : sp_P} {M : zm_M} {p : Nat} {G F : sp_F} {w : Bool} (hwP : wf_P P) (hP : rc_P P M) (hp : p < 50) (hG : rc_F M p G) (hF : rc_F M 100 F) (oG : ok_8 G) (oF : ok_8 F) (hw : M 22 0 p = bI w) : ∃ M', fn_fl_joinAt [.inr (18, 0), .inl (nI p), .inr (23, 100)] M = some (bI (af_jn P G F).isSome, M') ∧ zo_p p M M' ∧ M' 21 = M 21 ∧ ∀ H, af_jn P G F = some H → rc_F M' p H ∧ M' 22 0 p = bI (w || !decide (H = G)) := by
  obtain ⟨L, T, b⟩ := G
  obtain ⟨K, U, c⟩ := F
  have hTl : T.length ≤ 8 := Nat.le_trans (sp_sl_len T) oG.2
  have hUl : U.length ≤ 8 := Nat.le_trans (sp_sl_len U) oF.2
  have dG : M 23 p 2 = nI T.length := hG.1.2.2.1
  have dF : M 23 100 2 = nI U.length := hF.1.2.2.1
  have rG : M 23 p 4 = bI b := hG.1.2.2.2.2
  have rF : M 23 100 4 = bI c := hF.1.2.2.2.2
  rw [eq_fl_joinAt, show (1073741824 : Nat) = 1073741823 + 1 from rfl, eq_fl_joinAt_0]
  simp only [nz_0, nz_1, nz_2, nz_3, nz_4, nz_5, nz_6, nz_7, nz_8, nz_9, nz_10, nz_11, nz_12, nz_13, nz_14, nz_15, nz_16, nz_17, nz_18, nz_19, nz_20, nz_21, nz_22, nz_23, nz_24, nz_25, nz_26, nz_27, nz_28, nz_29, nz_30, nz_31, nz_32, nz_33, nz_34, nz_35, nz_36, nz_37, nz_38, nz_39, nz_40, nz_41, nz_42, nz_43, nz_44, nz_45, nz_46, nz_47, nz_48, nz_49, nz_50, nz_51, nz_63, nz_64, nz_66, nz_127, nz_128, nz_246, nz_247, nz_248, nz_250, nz_251, nz_252, nz_254, nz_255, nz_256, nz_400, nz_2500]
  rw [nI_clamp (by omega), if_neg (ni_in hp (by omega)), if_neg (ni_in hp (by omega)), dG, dF, rG, rF]
  by_cases hl : T.length = U.length
  · rw [if_pos (by rw [hl])]
    -- the rest, from the store M1 on, with the flag w1
    have rest : ∀ (M1 : zm_M) (w1 : Bool), zo_p p M M1 → M1 21 = M 21 → M1 24 = M 24 → M1 25 = M 25 → M1 23 p 2 = nI T.length → M1 23 p 3 = nI (sp_sl T) → M1 23 p 4 = bI (b || c) → M1 22 0 p = bI w1 → w1 = (w || !decide ((b || c) = b)) → ∃ M', rr_fl_joinAt (1073741823 + 1) 49 [some (.inr (18, 0)), some (.inl (nI p)), some (.inr (23, 100)), some (.inr (23, p)), some (.inl (nI 0)), none] [] M1 = some (bI (af_jn P (L, T, b) (K, U, c)).isSome, M') ∧ zo_p p M M' ∧ M' 21 = M 21 ∧ ∀ H, af_jn P (L, T, b) (K, U, c) = some H → rc_F M' p H ∧ M' 22 0 p = bI (w || !decide (H = (L, T, b))) := by
      intro M1 w1 z1 z21 z24 z25 d1 d3 d4 hw1 hw1'
      have hP1 := z1.P hP
      obtain ⟨M2, n', o', a1, a2, a3, a4, a5, a6, a7, a8⟩ := sc_jl hwP hp (L := L) (K := K) oG.1.2.1 oF.1.2.1 oG.1.1.1 oF.1.1.1 10 0 (1073741823 + 1) M1 w1 none (by omega) (by omega) hP1.1 (by
        intro j hj
        rw [z24, if_neg (by omega)]
        exact hG.1.2.1 j hj) (by
        intro j hj
        rw [z24]
        exact hF.1.2.1 j hj) hw1
      have z2 := z1.tr a3
      have hP2 := z2.P hP
      have hr : zj P T.reverse U.reverse = (zj P T U).reverse := zj_rev hl
      obtain ⟨M3, b1, b2, b3, b4, b5, b6⟩ := sc_js hwP hp (A := T.reverse) (B := U.reverse) (d := T.length) (by simp) (by simp [hl]) hTl (by simpa using oG.1.1.2) (by simpa using oF.1.1.2) T.length 0 (n' + 1) M2 (w1 || !decide ((zj P L K).drop 0 = L.drop 0)) o' (by omega) (by omega) hP2.1 (by rw [a5]; exact d1) (by
        intro j hj
        rw [a6, z25, if_neg (by omega), gd_rev hj]
        exact hG.1.2.2.2.1 j hj) (by
        intro j hj
        rw [a6, z25, gd_rev (by omega)]
        exact hF.1.2.2.2.1 j (by show j < U.length; omega)) a8
      rw [a1, b1]
      have hmem : (0 ∈ (zj P T.reverse U.reverse).drop 0) ↔ 0 ∈ zj P T U := by rw [List.drop_zero, hr, List.mem_reverse]
      have hj : af_jn P (L, T, b) (K, U, c) = if 0 ∈ zj P T U then none else some (zj P L K, zj P T U, b || c) := by
        unfold af_jn
        rw [if_pos hl]
      refine ⟨M3, ?_, z2.tr b2, by rw [b3, a4, z21], ?_⟩
      · rw [hj]
        by_cases e : 0 ∈ zj P T U
        · rw [if_pos e, decide_eq_true (hmem.mpr e)]
          rfl
        · rw [if_neg e, decide_eq_false (fun q => e (hmem.mp q))]
          rfl
      · intro H hH
        rw [hj] at hH
        by_cases e : 0 ∈ zj P T U
        · rw [if_pos e] at hH
          cases hH
        · rw [if_neg e] at hH
          cases hH
          obtain ⟨s1, s2⟩ := b6 (fun q => e (hmem.mp q))
          have hzl : (zj P T U).length = T.length := zj_len hl
          have hle := (zj_ub hwP.1 (L := T) (K := U) hl oG.1.1.2 oF.1.1.2).1
          have hsl : sp_sl (zj P T U) = sp_sl T := (hle.sl (fun t ht h0 => e (by rw [h0] at ht; exact ht))).symm
          refine ⟨⟨⟨?_, ?_, ?_, ?_, ?_⟩, ?_, ?_⟩, ?_⟩
          · show (zj P L K).length = 10
            rw [zj_len (by rw [oG.1.2.1, oF.1.2.1])]
            exact oG.1.2.1
          · intro j hj
            rw [b5]
            exact a7 j hj
          · show M3 23 p 2 = nI (zj P T U).length
            rw [b4, a5, d1, hzl]
          · intro j hj
            have hj2 : j < T.length := by rw [← hzl]; exact hj
            show M3 25 p j = nI ((zj P T U).getD ((zj P T U).length - 1 - j) 0)
            rw [s1 j hj2, hr, gd_rev (by omega)]
          · show M3 23 p 4 = bI (b || c)
            rw [b4, a5, d4]
          · show M3 23 p 3 = nI (sp_sl (zj P T U))
            rw [b4, a5, d3, hsl]
          · show sp_sl (zj P T U) ≤ 8
            rw [hsl]
            exact oG.2
          · rw [s2, hw1']
            congr 1
            rw [List.drop_zero, List.drop_zero, List.drop_zero, List.drop_zero, hr]
            by_cases e1 : zj P L K = L
            · by_cases e2 : zj P T U = T
              · by_cases e3 : (b || c) = b
                · simp [e1, e2, e3]
                · simp [e1, e2, e3]
              · simp [e1, e2]
            · simp [e1]
    by_cases hc : c = true
    · subst hc
      rw [if_neg (by decide)]
      by_cases hb : b = true
      · subst hb
        rw [if_neg (by decide)]
        exact rest M w zo_p.rf rfl rfl rfl dG hG.2.1 rG hw (by simp)
      · have hb : b = false := by simpa using hb
        subst hb
        rw [if_pos (by decide), show nI 1 &&& nI 1 = bI true by decide]
        refine rest _ true ((zo_p.a (by omega)).tr zo_p.w) ?_ ?_ ?_ ?_ ?_ ?_ zu_e (by simp)
        · rw [zu_s (by decide), zu_s (by decide)]
        · rw [zu_s (by decide), zu_s (by decide)]
        · rw [zu_s (by decide), zu_s (by decide)]
        · rw [zu_s (by decide), zu_k (by decide)]; exact dG
        · rw [zu_s (by decide), zu_k (by decide)]; exact hG.2.1
        · rw [zu_s (by decide), zu_e]; rfl
    · have hc : c = false := by simpa using hc
      subst hc
      rw [if_pos (by decide)]
      exact rest M w zo_p.rf rfl rfl rfl dG hG.2.1 (by rw [rG, Bool.or_false]) hw (by simp)
  · rw [if_neg (ni_ne hl (by omega) (by omega))]
    have hj : af_jn P (L, T, b) (K, U, c) = none := by
      unfold af_jn
      rw [if_neg hl]
    rw [hj]
    exact ⟨M, rfl, zo_p.rf, rfl, fun H h => by cases h⟩
