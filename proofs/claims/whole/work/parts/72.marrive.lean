/-! the reference: a coming -/
def zo_q (q : Nat) (M M' : zm_M) : Prop := ∀ s i k, ¬ (s = 35 ∧ (k = 27 ∨ k = 28)) → ¬ ((s = 49 ∨ s = 50 ∨ s = 51) ∧ k = q) → ¬ (s = 52 ∧ 10 * q ≤ k ∧ k < 10 * q + 10) → ¬ (s = 53 ∧ 8 * q ≤ k ∧ k < 8 * q + 8) → M' s i k = M s i k
theorem zo_q.rf {q : Nat} {M : zm_M} : zo_q q M M := fun _ _ _ _ _ _ _ => rfl
theorem zo_q.tr {q : Nat} {M M1 M2 : zm_M} (h : zo_q q M M1) (h2 : zo_q q M1 M2) : zo_q q M M2 := fun s i k a b c d => (h2 s i k a b c d).trans (h s i k a b c d)
theorem zo_q.up {q s0 k0 : Nat} {x : Int32} {M : zm_M} (h : (s0 = 35 ∧ (k0 = 27 ∨ k0 = 28)) ∨ ((s0 = 49 ∨ s0 = 50 ∨ s0 = 51) ∧ k0 = q) ∨ (s0 = 52 ∧ 10 * q ≤ k0 ∧ k0 < 10 * q + 10) ∨ (s0 = 53 ∧ 8 * q ≤ k0 ∧ k0 < 8 * q + 8)) : zo_q q M (zm_up M s0 0 k0 x) := by
  intro s i k a b c d
  by_cases e : s = s0
  · by_cases e2 : k = k0
    · subst e e2
      exact absurd h (by omega)
    · rw [zu_k e2]
  · rw [zu_s e]
/-- only THE FLOW's things of the reference -/
def zo_A (M M' : zm_M) : Prop := ∀ s i k, ¬ (s = 35 ∧ (k = 27 ∨ k = 28)) → ¬ (49 ≤ s ∧ s ≤ 53) → M' s i k = M s i k
theorem zo_q.A {q : Nat} {M M' : zm_M} (h : zo_q q M M') : zo_A M M' := fun s i k a b => h s i k a (by omega) (by omega) (by omega)
theorem zo_A.F {M M' : zm_M} {F : sp_F} (h : zo_A M M') (hF : rm_F M F) : rm_F M' F := by
  unfold rm_F at hF ⊢
  rw [show M' 47 0 = M 47 0 from funext fun k => h 47 0 k (by omega) (by omega), show M' 48 0 = M 48 0 from funext fun k => h 48 0 k (by omega) (by omega), h 35 0 20 (by omega) (by omega), h 35 0 21 (by omega) (by omega)]
  exact hF
theorem zo_A.P {M M' : zm_M} {P : sp_P} (h : zo_A M M') (hP : rm_P P M) : rm_P P M' := hP.kept (fun s h1 h2 => by funext i k; exact h s i k (by omega) (by omega)) (fun k hk => h 35 0 k (by omega) (by omega))
theorem rm_G.kept {M M' : zm_M} {p : Nat} {F : sp_F} (hp : F.2.1.length ≤ 8) (h : rm_G M p F) (h0 : M' 50 0 p = M 50 0 p) (h1 : M' 51 0 p = M 51 0 p) (h2 : ∀ j, j < 10 → M' 52 0 (10 * p + j) = M 52 0 (10 * p + j)) (h3 : ∀ j, j < 8 → M' 53 0 (8 * p + j) = M 53 0 (8 * p + j)) : rm_G M' p F := by
  refine ⟨h.1, ?_, ?_, ?_, ?_⟩
  · intro j hj
    exact (h2 j hj).trans (h.2.1 j hj)
  · rw [h1]
    exact h.2.2.1
  · intro j hj
    exact (h3 j (by omega)).trans (h.2.2.2.1 j hj)
  · rw [h0]
    exact h.2.2.2.2
theorem zo_q.G {q r : Nat} {M M' : zm_M} {F : sp_F} (h : zo_q q M M') (hr : r ≠ q) (hl : F.2.1.length ≤ 8) (hG : rm_G M r F) : rm_G M' r F := hG.kept hl (h 50 0 r (by omega) (by omega) (by omega) (by omega)) (h 51 0 r (by omega) (by omega) (by omega) (by omega)) (fun j hj => h 52 0 _ (by omega) (by omega) (by omega) (by omega)) (fun j hj => h 53 0 _ (by omega) (by omega) (by omega) (by omega))
theorem al_f {q : Nat} (hq : q < 50) : ∀ (k i n : Nat) (M : zm_M) (o4 o5 : Option zm_V), i + k = 10 → k < n → (∀ j, j < i → M 52 0 (10 * q + j) = M 47 0 j) → ∃ M' n' o4' o5', rr_mo_arrive n 53 [some (.inr (35, 0)), some (.inl (nI q)), some (.inl (nI 1)), some (.inl (nI i)), o4, o5] [] M = rr_mo_arrive (n' + 1) 137 [some (.inr (35, 0)), some (.inl (nI q)), some (.inl (nI 1)), some (.inl (nI 0)), o4', o5'] [] M' ∧ n ≤ n' + 1 + k ∧ zo_q q M M' ∧ (∀ j, j < 10 → M' 52 0 (10 * q + j) = M 47 0 j) ∧ M' 35 0 27 = M 35 0 27 := by
  intro k
  induction k with
  | zero =>
    intro i n M o4 o5 hk hn hM
    obtain ⟨n, rfl⟩ : ∃ m, n = m + 1 := ⟨n - 1, by omega⟩
    rw [eq_mo_arrive_53]
    simp only [nz_0, nz_1, nz_2, nz_3, nz_4, nz_5, nz_6, nz_7, nz_8, nz_9, nz_10, nz_11, nz_12, nz_13, nz_14, nz_15, nz_16, nz_17, nz_18, nz_19, nz_20, nz_21, nz_22, nz_23, nz_24, nz_25, nz_26, nz_27, nz_28, nz_29, nz_30, nz_31, nz_32, nz_33, nz_34, nz_35, nz_36, nz_37, nz_38, nz_39, nz_40, nz_41, nz_42, nz_43, nz_44, nz_45, nz_46, nz_47, nz_48, nz_49, nz_50, nz_51, nz_63, nz_64, nz_66, nz_127, nz_128, nz_246, nz_247, nz_248, nz_250, nz_251, nz_252, nz_254, nz_255, nz_256, nz_400, nz_2500]
    rw [if_neg (ni_nl (by omega) (by omega) (by omega))]
    exact ⟨M, n, _, _, rfl, by omega, zo_q.rf, fun j hj => hM j (by omega), rfl⟩
  | succ k ih =>
    intro i n M o4 o5 hk hn hM
    obtain ⟨n, rfl⟩ : ∃ m, n = m + 1 := ⟨n - 1, by omega⟩
    rw [eq_mo_arrive_53]
    simp only [nz_0, nz_1, nz_2, nz_3, nz_4, nz_5, nz_6, nz_7, nz_8, nz_9, nz_10, nz_11, nz_12, nz_13, nz_14, nz_15, nz_16, nz_17, nz_18, nz_19, nz_20, nz_21, nz_22, nz_23, nz_24, nz_25, nz_26, nz_27, nz_28, nz_29, nz_30, nz_31, nz_32, nz_33, nz_34, nz_35, nz_36, nz_37, nz_38, nz_39, nz_40, nz_41, nz_42, nz_43, nz_44, nz_45, nz_46, nz_47, nz_48, nz_49, nz_50, nz_51, nz_63, nz_64, nz_66, nz_127, nz_128, nz_246, nz_247, nz_248, nz_250, nz_251, nz_252, nz_254, nz_255, nz_256, nz_400, nz_2500, pk_mul, nI_add]
    rw [if_pos (ni_lt (by omega) (by omega) (by omega)), if_neg (by decide), nI_clamp (by omega), if_neg (ni_in (show i < 10 by omega) (by omega)), eq_mo_arrive_97]
    simp only [nz_0, nz_1, nz_2, nz_3, nz_4, nz_5, nz_6, nz_7, nz_8, nz_9, nz_10, nz_11, nz_12, nz_13, nz_14, nz_15, nz_16, nz_17, nz_18, nz_19, nz_20, nz_21, nz_22, nz_23, nz_24, nz_25, nz_26, nz_27, nz_28, nz_29, nz_30, nz_31, nz_32, nz_33, nz_34, nz_35, nz_36, nz_37, nz_38, nz_39, nz_40, nz_41, nz_42, nz_43, nz_44, nz_45, nz_46, nz_47, nz_48, nz_49, nz_50, nz_51, nz_63, nz_64, nz_66, nz_127, nz_128, nz_246, nz_247, nz_248, nz_250, nz_251, nz_252, nz_254, nz_255, nz_256, nz_400, nz_2500]
    rw [if_neg (by decide), eq_mo_arrive_115, eq_mo_arrive_120]
    simp only [nz_0, nz_1, nz_2, nz_3, nz_4, nz_5, nz_6, nz_7, nz_8, nz_9, nz_10, nz_11, nz_12, nz_13, nz_14, nz_15, nz_16, nz_17, nz_18, nz_19, nz_20, nz_21, nz_22, nz_23, nz_24, nz_25, nz_26, nz_27, nz_28, nz_29, nz_30, nz_31, nz_32, nz_33, nz_34, nz_35, nz_36, nz_37, nz_38, nz_39, nz_40, nz_41, nz_42, nz_43, nz_44, nz_45, nz_46, nz_47, nz_48, nz_49, nz_50, nz_51, nz_63, nz_64, nz_66, nz_127, nz_128, nz_246, nz_247, nz_248, nz_250, nz_251, nz_252, nz_254, nz_255, nz_256, nz_400, nz_2500, nI_add]
    rw [nI_clamp (by omega), if_neg (ni_in (show 10 * q + i < 500 by omega) (by omega))]
    obtain ⟨M', n', a, b, h1, h2, h3, h4, h5⟩ := ih (i + 1) n (zm_up (zm_up M 35 0 28 (nI 1)) 52 0 (10 * q + i) (M 47 0 i)) _ _ (by omega) (by omega) (by
      intro j hj
      rw [zu_s (s' := 47) (by decide), zu_s (s' := 47) (by decide)]
      by_cases e : j = i
      · subst e
        exact zu_e
      · rw [zu_k (by omega), zu_s (by decide)]
        exact hM j (by omega))
    refine ⟨M', n', a, b, h1, by omega, ((zo_q.up (by omega)).tr (zo_q.up (by omega))).tr h3, ?_, ?_⟩
    · intro j hj
      rw [h4 j hj, zu_s (by decide), zu_s (by decide)]
    · rw [h5, zu_s (by decide), zu_k (by decide)]
theorem al_j {P : sp_P} (hwP : wf_P P) {q : Nat} (hq : q < 50) {L K : List Nat} (hL : L.length = 10) (hK : K.length = 10) (wL : ∀ t ∈ L, sp_wt t) (wK : ∀ t ∈ K, sp_wt t) : ∀ (k i n : Nat) (M : zm_M) (c : Bool) (o4 o5 : Option zm_V), i + k = 10 → k < n → rm_C P M → (∀ j, j < 10 → M 52 0 (10 * q + j) = nI (if j < i then (zj P L K).getD j 0 else L.getD j 0)) → (∀ j, j < 10 → M 47 0 j = nI (K.getD j 0)) → M 35 0 28 = bI c → ∃ M' n' o4' o5', rr_mo_arrive n 53 [some (.inr (35, 0)), some (.inl (nI q)), some (.inl (nI 0)), some (.inl (nI i)), o4, o5] [] M = rr_mo_arrive (n' + 1) 137 [some (.inr (35, 0)), some (.inl (nI q)), some (.inl (nI 0)), some (.inl (nI 0)), o4', o5'] [] M' ∧ n ≤ n' + 1 + k ∧ zo_q q M M' ∧ (∀ j, j < 10 → M' 52 0 (10 * q + j) = nI ((zj P L K).getD j 0)) ∧ M' 53 = M 53 ∧ M' 50 = M 50 ∧ M' 35 0 27 = M 35 0 27 ∧ M' 35 0 28 = bI (c || !decide ((zj P L K).drop i = L.drop i)) := by
  have hzl : (zj P L K).length = 10 := by rw [zj_len (by rw [hL, hK]), hL]
  intro k
  induction k with
  | zero =>
    intro i n M c o4 o5 hk hn hC h1 h2 h3
    obtain ⟨n, rfl⟩ : ∃ m, n = m + 1 := ⟨n - 1, by omega⟩
    rw [eq_mo_arrive_53]
    simp only [nz_0, nz_1, nz_2, nz_3, nz_4, nz_5, nz_6, nz_7, nz_8, nz_9, nz_10, nz_11, nz_12, nz_13, nz_14, nz_15, nz_16, nz_17, nz_18, nz_19, nz_20, nz_21, nz_22, nz_23, nz_24, nz_25, nz_26, nz_27, nz_28, nz_29, nz_30, nz_31, nz_32, nz_33, nz_34, nz_35, nz_36, nz_37, nz_38, nz_39, nz_40, nz_41, nz_42, nz_43, nz_44, nz_45, nz_46, nz_47, nz_48, nz_49, nz_50, nz_51, nz_63, nz_64, nz_66, nz_127, nz_128, nz_246, nz_247, nz_248, nz_250, nz_251, nz_252, nz_254, nz_255, nz_256, nz_400, nz_2500]
    rw [if_neg (ni_nl (by omega) (by omega) (by omega))]
    refine ⟨M, n, _, _, rfl, by omega, zo_q.rf, ?_, rfl, rfl, rfl, ?_⟩
    · intro j hj
      rw [h1 j hj, if_pos (by omega)]
    · rw [List.drop_eq_nil_of_le (by omega), List.drop_eq_nil_of_le (by omega)]
      simpa using h3
  | succ k ih =>
    intro i n M c o4 o5 hk hn hC h1 h2 h3
    obtain ⟨n, rfl⟩ : ∃ m, n = m + 1 := ⟨n - 1, by omega⟩
    have wi := wt_gd wL i
    have ki := wt_gd wK i
    have ji := jn_wt hwP.1 wi ki
    have jl := sp_wt_lt ji
    have ll := sp_wt_lt wi
    have hz : (zj P L K).getD i 0 = sp_jn P (L.getD i 0) (K.getD i 0) := zj_gd (by omega) (by omega)
    have hMi := h1 i (by omega)
    rw [if_neg (by omega)] at hMi
    rw [eq_mo_arrive_53]
    simp only [nz_0, nz_1, nz_2, nz_3, nz_4, nz_5, nz_6, nz_7, nz_8, nz_9, nz_10, nz_11, nz_12, nz_13, nz_14, nz_15, nz_16, nz_17, nz_18, nz_19, nz_20, nz_21, nz_22, nz_23, nz_24, nz_25, nz_26, nz_27, nz_28, nz_29, nz_30, nz_31, nz_32, nz_33, nz_34, nz_35, nz_36, nz_37, nz_38, nz_39, nz_40, nz_41, nz_42, nz_43, nz_44, nz_45, nz_46, nz_47, nz_48, nz_49, nz_50, nz_51, nz_63, nz_64, nz_66, nz_127, nz_128, nz_246, nz_247, nz_248, nz_250, nz_251, nz_252, nz_254, nz_255, nz_256, nz_400, nz_2500, pk_mul, nI_add]
    rw [if_pos (ni_lt (by omega) (by omega) (by omega)), if_pos trivial, nI_clamp (by omega), nI_clamp (by omega), if_neg (ni_in (show 10 * q + i < 500 by omega) (by omega)), if_neg (ni_in (show i < 10 by omega) (by omega)), hMi, h2 i (by omega), so_join hwP.1 hC wi ki]
    simp only [Option.bind_some]
    rw [eq_mo_arrive_97]
    simp only [nz_0, nz_1, nz_2, nz_3, nz_4, nz_5, nz_6, nz_7, nz_8, nz_9, nz_10, nz_11, nz_12, nz_13, nz_14, nz_15, nz_16, nz_17, nz_18, nz_19, nz_20, nz_21, nz_22, nz_23, nz_24, nz_25, nz_26, nz_27, nz_28, nz_29, nz_30, nz_31, nz_32, nz_33, nz_34, nz_35, nz_36, nz_37, nz_38, nz_39, nz_40, nz_41, nz_42, nz_43, nz_44, nz_45, nz_46, nz_47, nz_48, nz_49, nz_50, nz_51, nz_63, nz_64, nz_66, nz_127, nz_128, nz_246, nz_247, nz_248, nz_250, nz_251, nz_252, nz_254, nz_255, nz_256, nz_400, nz_2500]
    rw [if_pos trivial, nI_clamp (by omega), if_neg (ni_in (show 10 * q + i < 500 by omega) (by omega)), hMi]
    have key : ∀ (M1 : zm_M) (c1 : Bool), (M1 = M ∨ M1 = zm_up M 35 0 28 (nI 1)) → M1 35 0 28 = bI c1 → c1 = (c || !decide ((zj P L K).getD i 0 = L.getD i 0)) → ∃ M' n' o4' o5', rr_mo_arrive (n + 1) 120 [some (.inr (35, 0)), some (.inl (nI q)), some (.inl (nI 0)), some (.inl (nI i)), some (.inl (nI (10 * q + i))), some (.inl (nI (sp_jn P (L.getD i 0) (K.getD i 0))))] [] M1 = rr_mo_arrive (n' + 1) 137 [some (.inr (35, 0)), some (.inl (nI q)), some (.inl (nI 0)), some (.inl (nI 0)), o4', o5'] [] M' ∧ n + 1 ≤ n' + 1 + (k + 1) ∧ zo_q q M M' ∧ (∀ j, j < 10 → M' 52 0 (10 * q + j) = nI ((zj P L K).getD j 0)) ∧ M' 53 = M 53 ∧ M' 50 = M 50 ∧ M' 35 0 27 = M 35 0 27 ∧ M' 35 0 28 = bI (c || !decide ((zj P L K).drop i = L.drop i)) := by
      intro M1 c1 hM1 hc1 hc1'
      have z1 : zo_q q M M1 := by
        rcases hM1 with rfl | rfl
        · exact zo_q.rf
        · exact zo_q.up (by omega)
      have s52 : ∀ s, s ≠ 35 → M1 s = M s := by
        intro s hs
        rcases hM1 with rfl | rfl
        · rfl
        · exact zu_s hs
      have s27 : M1 35 0 27 = M 35 0 27 := by
        rcases hM1 with rfl | rfl
        · rfl
        · exact zu_k (by decide)
      rw [eq_mo_arrive_120]
      simp only [nz_0, nz_1, nz_2, nz_3, nz_4, nz_5, nz_6, nz_7, nz_8, nz_9, nz_10, nz_11, nz_12, nz_13, nz_14, nz_15, nz_16, nz_17, nz_18, nz_19, nz_20, nz_21, nz_22, nz_23, nz_24, nz_25, nz_26, nz_27, nz_28, nz_29, nz_30, nz_31, nz_32, nz_33, nz_34, nz_35, nz_36, nz_37, nz_38, nz_39, nz_40, nz_41, nz_42, nz_43, nz_44, nz_45, nz_46, nz_47, nz_48, nz_49, nz_50, nz_51, nz_63, nz_64, nz_66, nz_127, nz_128, nz_246, nz_247, nz_248, nz_250, nz_251, nz_252, nz_254, nz_255, nz_256, nz_400, nz_2500, nI_add]
      rw [nI_clamp (by omega), if_neg (ni_in (show 10 * q + i < 500 by omega) (by omega))]
      obtain ⟨M', n', a, b, r1, r2, r3, r4, r5, r6, r7, r8⟩ := ih (i + 1) n (zm_up M1 52 0 (10 * q + i) (nI (sp_jn P (L.getD i 0) (K.getD i 0)))) c1 _ _ (by omega) (by omega) (by
          unfold rm_C at hC ⊢
          rw [zu_s (by decide), zu_s (by decide), s52 36 (by decide), s52 37 (by decide)]
          exact hC) (by
          intro j hj
          by_cases e : j = i
          · subst e
            rw [zu_e, if_pos (by omega), hz]
          · rw [zu_k (by omega), s52 52 (by decide), h1 j hj]
            by_cases e2 : j < i
            · rw [if_pos e2, if_pos (by omega)]
            · rw [if_neg e2, if_neg (by omega)]) (by
          intro j hj
          rw [zu_s (by decide), s52 47 (by decide)]
          exact h2 j hj) (by
          rw [zu_s (by decide), hc1])
      refine ⟨M', n', a, b, r1, by omega, (z1.tr (zo_q.up (by omega))).tr r3, r4, ?_, ?_, ?_, ?_⟩
      · rw [r5, zu_s (by decide), s52 53 (by decide)]
      · rw [r6, zu_s (by decide), s52 50 (by decide)]
      · rw [r7, zu_s (by decide), s27]
      · rw [r8, hc1', dr_c (show i < (zj P L K).length by omega), dr_c (show i < L.length by omega), dec_c, Bool.or_assoc]
    by_cases e : sp_jn P (L.getD i 0) (K.getD i 0) = L.getD i 0
    · rw [if_pos (by rw [e])]
      exact key M c (Or.inl rfl) h3 (by simp only [hz, e, decide_true, Bool.not_true, Bool.or_false])
    · rw [if_neg (ni_ne e (by omega) (by omega)), eq_mo_arrive_115]
      simp only [nz_0, nz_1, nz_2, nz_3, nz_4, nz_5, nz_6, nz_7, nz_8, nz_9, nz_10, nz_11, nz_12, nz_13, nz_14, nz_15, nz_16, nz_17, nz_18, nz_19, nz_20, nz_21, nz_22, nz_23, nz_24, nz_25, nz_26, nz_27, nz_28, nz_29, nz_30, nz_31, nz_32, nz_33, nz_34, nz_35, nz_36, nz_37, nz_38, nz_39, nz_40, nz_41, nz_42, nz_43, nz_44, nz_45, nz_46, nz_47, nz_48, nz_49, nz_50, nz_51, nz_63, nz_64, nz_66, nz_127, nz_128, nz_246, nz_247, nz_248, nz_250, nz_251, nz_252, nz_254, nz_255, nz_256, nz_400, nz_2500]
      exact key _ true (Or.inr rfl) zu_e (by simp only [hz, e, decide_false, Bool.not_false, Bool.or_true])
theorem as_f {q d : Nat} (hq : q < 50) (hd8 : d ≤ 8) {A : Nat → Nat} (hA : ∀ j, j < d → A j ≠ 0 ∧ A j < 2 ^ 31) : ∀ (k i n : Nat) (M : zm_M) (o4 o5 : Option zm_V), i + k = d → k < n → M 35 0 20 = nI d → (∀ j, j < d → M 48 0 j = nI (A j)) → (∀ j, j < i → M 53 0 (8 * q + j) = nI (A j)) → ∃ M' n' o4' o5', rr_mo_arrive n 137 [some (.inr (35, 0)), some (.inl (nI q)), some (.inl (nI 1)), some (.inl (nI i)), o4, o5] [] M = rr_mo_arrive (n' + 1) 137 [some (.inr (35, 0)), some (.inl (nI q)), some (.inl (nI 1)), some (.inl (nI d)), o4', o5'] [] M' ∧ zo_q q M M' ∧ M' 52 = M 52 ∧ (∀ j, j < d → M' 53 0 (8 * q + j) = nI (A j)) ∧ M' 35 0 27 = M 35 0 27 := by
  intro k
  induction k with
  | zero =>
    intro i n M o4 o5 hk hn hd h48 hM
    obtain ⟨n, rfl⟩ : ∃ m, n = m + 1 := ⟨n - 1, by omega⟩
    have : i = d := by omega
    subst this
    exact ⟨M, n, _, _, rfl, zo_q.rf, rfl, hM, rfl⟩
  | succ k ih =>
    intro i n M o4 o5 hk hn hd h48 hM
    obtain ⟨n, rfl⟩ : ∃ m, n = m + 1 := ⟨n - 1, by omega⟩
    have hAi := hA i (by omega)
    rw [eq_mo_arrive_137, hd]
    simp only [nz_0, nz_1, nz_2, nz_3, nz_4, nz_5, nz_6, nz_7, nz_8, nz_9, nz_10, nz_11, nz_12, nz_13, nz_14, nz_15, nz_16, nz_17, nz_18, nz_19, nz_20, nz_21, nz_22, nz_23, nz_24, nz_25, nz_26, nz_27, nz_28, nz_29, nz_30, nz_31, nz_32, nz_33, nz_34, nz_35, nz_36, nz_37, nz_38, nz_39, nz_40, nz_41, nz_42, nz_43, nz_44, nz_45, nz_46, nz_47, nz_48, nz_49, nz_50, nz_51, nz_63, nz_64, nz_66, nz_127, nz_128, nz_246, nz_247, nz_248, nz_250, nz_251, nz_252, nz_254, nz_255, nz_256, nz_400, nz_2500, pk_mul, nI_add]
    rw [if_pos (ni_lt (by omega) (by omega) (by omega)), if_neg (by decide), nI_clamp (by omega), if_neg (ni_in (show i < 9 by omega) (by omega)), h48 i (by omega), eq_mo_arrive_183]
    simp only [nz_0, nz_1, nz_2, nz_3, nz_4, nz_5, nz_6, nz_7, nz_8, nz_9, nz_10, nz_11, nz_12, nz_13, nz_14, nz_15, nz_16, nz_17, nz_18, nz_19, nz_20, nz_21, nz_22, nz_23, nz_24, nz_25, nz_26, nz_27, nz_28, nz_29, nz_30, nz_31, nz_32, nz_33, nz_34, nz_35, nz_36, nz_37, nz_38, nz_39, nz_40, nz_41, nz_42, nz_43, nz_44, nz_45, nz_46, nz_47, nz_48, nz_49, nz_50, nz_51, nz_63, nz_64, nz_66, nz_127, nz_128, nz_246, nz_247, nz_248, nz_250, nz_251, nz_252, nz_254, nz_255, nz_256, nz_400, nz_2500]
    rw [if_neg (by decide), eq_mo_arrive_201, eq_mo_arrive_206]
    simp only [nz_0, nz_1, nz_2, nz_3, nz_4, nz_5, nz_6, nz_7, nz_8, nz_9, nz_10, nz_11, nz_12, nz_13, nz_14, nz_15, nz_16, nz_17, nz_18, nz_19, nz_20, nz_21, nz_22, nz_23, nz_24, nz_25, nz_26, nz_27, nz_28, nz_29, nz_30, nz_31, nz_32, nz_33, nz_34, nz_35, nz_36, nz_37, nz_38, nz_39, nz_40, nz_41, nz_42, nz_43, nz_44, nz_45, nz_46, nz_47, nz_48, nz_49, nz_50, nz_51, nz_63, nz_64, nz_66, nz_127, nz_128, nz_246, nz_247, nz_248, nz_250, nz_251, nz_252, nz_254, nz_255, nz_256, nz_400, nz_2500]
    rw [if_neg (ni_ne hAi.1 hAi.2 (by omega)), eq_mo_arrive_216]
    simp only [nz_0, nz_1, nz_2, nz_3, nz_4, nz_5, nz_6, nz_7, nz_8, nz_9, nz_10, nz_11, nz_12, nz_13, nz_14, nz_15, nz_16, nz_17, nz_18, nz_19, nz_20, nz_21, nz_22, nz_23, nz_24, nz_25, nz_26, nz_27, nz_28, nz_29, nz_30, nz_31, nz_32, nz_33, nz_34, nz_35, nz_36, nz_37, nz_38, nz_39, nz_40, nz_41, nz_42, nz_43, nz_44, nz_45, nz_46, nz_47, nz_48, nz_49, nz_50, nz_51, nz_63, nz_64, nz_66, nz_127, nz_128, nz_246, nz_247, nz_248, nz_250, nz_251, nz_252, nz_254, nz_255, nz_256, nz_400, nz_2500, nI_add]
    rw [nI_clamp (by omega), if_neg (ni_in (show 8 * q + i < 400 by omega) (by omega))]
    obtain ⟨M', n', a, b, h1, h3, h6, h4, h5⟩ := ih (i + 1) n (zm_up (zm_up M 35 0 28 (nI 1)) 53 0 (8 * q + i) (nI (A i))) _ _ (by omega) (by omega) (by rw [zu_s (by decide), zu_k (by decide)]; exact hd) (by
      intro j hj
      rw [zu_s (by decide), zu_s (by decide)]
      exact h48 j hj) (by
      intro j hj
      by_cases e : j = i
      · subst e
        exact zu_e
      · rw [zu_k (by omega), zu_s (by decide)]
        exact hM j (by omega))
    refine ⟨M', n', a, b, h1, ((zo_q.up (by omega)).tr (zo_q.up (by omega))).tr h3, ?_, h4, ?_⟩
    · rw [h6, zu_s (by decide), zu_s (by decide)]
    · rw [h5, zu_s (by decide), zu_k (by decide)]
theorem as_j {P : sp_P} (hwP : wf_P P) {q d : Nat} (hq : q < 50) {A B : List Nat} (hA : A.length = d) (hB : B.length = d) (h8 : d ≤ 8) (wA : ∀ t ∈ A, sp_wt t) (wB : ∀ t ∈ B, sp_wt t) : ∀ (k i n : Nat) (M : zm_M) (c r : Bool) (o4 o5 : Option zm_V), i + k = d → k < n → rm_C P M → M 35 0 20 = nI d → (∀ j, j < d → M 53 0 (8 * q + j) = nI (if j < i then (zj P A B).getD j 0 else A.getD j 0)) → (∀ j, j < d → M 48 0 j = nI (B.getD j 0)) → M 35 0 28 = bI c → M 35 0 27 = bI r → ∃ M' n' o4' o5', rr_mo_arrive n 137 [some (.inr (35, 0)), some (.inl (nI q)), some (.inl (nI 0)), some (.inl (nI i)), o4, o5] [] M = rr_mo_arrive (n' + 1) 137 [some (.inr (35, 0)), some (.inl (nI q)), some (.inl (nI 0)), some (.inl (nI d)), o4', o5'] [] M' ∧ zo_q q M M' ∧ M' 52 = M 52 ∧ M' 50 = M 50 ∧ (∀ j, j < d → M' 53 0 (8 * q + j) = nI ((zj P A B).getD j 0)) ∧ M' 35 0 27 = bI (r && !decide (0 ∈ (zj P A B).drop i)) ∧ M' 35 0 28 = bI (c || !decide ((zj P A B).drop i = A.drop i)) := by
  have hzl : (zj P A B).length = d := by rw [zj_len (by rw [hA, hB]), hA]
  intro k
  induction k with
  | zero =>
    intro i n M c r o4 o5 hk hn hC hd h1 h2 h3 h4
    obtain ⟨n, rfl⟩ : ∃ m, n = m + 1 := ⟨n - 1, by omega⟩
    have : i = d := by omega
    subst this
    refine ⟨M, n, _, _, rfl, zo_q.rf, rfl, rfl, ?_, ?_, ?_⟩
    · intro j hj
      rw [h1 j hj, if_pos hj]
    · rw [List.drop_eq_nil_of_le (by omega)]
      simpa using h4
    · rw [List.drop_eq_nil_of_le (by omega), List.drop_eq_nil_of_le (by omega)]
      simpa using h3
  | succ k ih =>
    intro i n M c r o4 o5 hk hn hC hd h1 h2 h3 h4
    obtain ⟨n, rfl⟩ : ∃ m, n = m + 1 := ⟨n - 1, by omega⟩
    have wi := wt_gd wA i
    have ki := wt_gd wB i
    have ji := jn_wt hwP.1 wi ki
    have jl := sp_wt_lt ji
    have ll := sp_wt_lt wi
    have hz : (zj P A B).getD i 0 = sp_jn P (A.getD i 0) (B.getD i 0) := zj_gd (by omega) (by omega)
    have hMi := h1 i (by omega)
    rw [if_neg (by omega)] at hMi
    have hdr := dr_c (show i < (zj P A B).length by omega)
    rw [eq_mo_arrive_137, hd]
    simp only [nz_0, nz_1, nz_2, nz_3, nz_4, nz_5, nz_6, nz_7, nz_8, nz_9, nz_10, nz_11, nz_12, nz_13, nz_14, nz_15, nz_16, nz_17, nz_18, nz_19, nz_20, nz_21, nz_22, nz_23, nz_24, nz_25, nz_26, nz_27, nz_28, nz_29, nz_30, nz_31, nz_32, nz_33, nz_34, nz_35, nz_36, nz_37, nz_38, nz_39, nz_40, nz_41, nz_42, nz_43, nz_44, nz_45, nz_46, nz_47, nz_48, nz_49, nz_50, nz_51, nz_63, nz_64, nz_66, nz_127, nz_128, nz_246, nz_247, nz_248, nz_250, nz_251, nz_252, nz_254, nz_255, nz_256, nz_400, nz_2500, pk_mul, nI_add]
    rw [if_pos (ni_lt (by omega) (by omega) (by omega)), if_pos trivial, nI_clamp (by omega), nI_clamp (by omega), if_neg (ni_in (show 8 * q + i < 400 by omega) (by omega)), if_neg (ni_in (show i < 9 by omega) (by omega)), hMi, h2 i (by omega), so_join hwP.1 hC wi ki]
    simp only [Option.bind_some]
    rw [eq_mo_arrive_183]
    simp only [nz_0, nz_1, nz_2, nz_3, nz_4, nz_5, nz_6, nz_7, nz_8, nz_9, nz_10, nz_11, nz_12, nz_13, nz_14, nz_15, nz_16, nz_17, nz_18, nz_19, nz_20, nz_21, nz_22, nz_23, nz_24, nz_25, nz_26, nz_27, nz_28, nz_29, nz_30, nz_31, nz_32, nz_33, nz_34, nz_35, nz_36, nz_37, nz_38, nz_39, nz_40, nz_41, nz_42, nz_43, nz_44, nz_45, nz_46, nz_47, nz_48, nz_49, nz_50, nz_51, nz_63, nz_64, nz_66, nz_127, nz_128, nz_246, nz_247, nz_248, nz_250, nz_251, nz_252, nz_254, nz_255, nz_256, nz_400, nz_2500]
    rw [if_pos trivial, nI_clamp (by omega), if_neg (ni_in (show 8 * q + i < 400 by omega) (by omega)), hMi]
    have key : ∀ (M1 : zm_M) (c1 : Bool), (M1 = M ∨ M1 = zm_up M 35 0 28 (nI 1)) → M1 35 0 28 = bI c1 → c1 = (c || !decide ((zj P A B).getD i 0 = A.getD i 0)) → ∃ M' n' o4' o5', rr_mo_arrive (n + 1) 206 [some (.inr (35, 0)), some (.inl (nI q)), some (.inl (nI 0)), some (.inl (nI i)), some (.inl (nI (8 * q + i))), some (.inl (nI (sp_jn P (A.getD i 0) (B.getD i 0))))] [] M1 = rr_mo_arrive (n' + 1) 137 [some (.inr (35, 0)), some (.inl (nI q)), some (.inl (nI 0)), some (.inl (nI d)), o4', o5'] [] M' ∧ zo_q q M M' ∧ M' 52 = M 52 ∧ M' 50 = M 50 ∧ (∀ j, j < d → M' 53 0 (8 * q + j) = nI ((zj P A B).getD j 0)) ∧ M' 35 0 27 = bI (r && !decide (0 ∈ (zj P A B).drop i)) ∧ M' 35 0 28 = bI (c || !decide ((zj P A B).drop i = A.drop i)) := by
      intro M1 c1 hM1 hc1 hc1'
      have z1 : zo_q q M M1 := by
        rcases hM1 with rfl | rfl
        · exact zo_q.rf
        · exact zo_q.up (by omega)
      have s52 : ∀ s, s ≠ 35 → M1 s = M s := by
        intro s hs
        rcases hM1 with rfl | rfl
        · rfl
        · exact zu_s hs
      have s27 : ∀ k, k ≠ 28 → M1 35 0 k = M 35 0 k := by
        intro k hk
        rcases hM1 with rfl | rfl
        · rfl
        · exact zu_k hk
      have key2 : ∀ (M2 : zm_M) (r1 : Bool), (M2 = M1 ∨ M2 = zm_up M1 35 0 27 (nI 0)) → M2 35 0 27 = bI r1 → r1 = (r && !decide ((zj P A B).getD i 0 = 0)) → ∃ M' n' o4' o5', rr_mo_arrive (n + 1) 216 [some (.inr (35, 0)), some (.inl (nI q)), some (.inl (nI 0)), some (.inl (nI i)), some (.inl (nI (8 * q + i))), some (.inl (nI (sp_jn P (A.getD i 0) (B.getD i 0))))] [] M2 = rr_mo_arrive (n' + 1) 137 [some (.inr (35, 0)), some (.inl (nI q)), some (.inl (nI 0)), some (.inl (nI d)), o4', o5'] [] M' ∧ zo_q q M M' ∧ M' 52 = M 52 ∧ M' 50 = M 50 ∧ (∀ j, j < d → M' 53 0 (8 * q + j) = nI ((zj P A B).getD j 0)) ∧ M' 35 0 27 = bI (r && !decide (0 ∈ (zj P A B).drop i)) ∧ M' 35 0 28 = bI (c || !decide ((zj P A B).drop i = A.drop i)) := by
        intro M2 r1 hM2 hr1 hr1'
        have z2 : zo_q q M M2 := by
          rcases hM2 with rfl | rfl
          · exact z1
          · exact z1.tr (zo_q.up (by omega))
        have t52 : ∀ s, s ≠ 35 → M2 s = M s := by
          intro s hs
          rcases hM2 with rfl | rfl
          · exact s52 s hs
          · rw [zu_s hs]; exact s52 s hs
        have t20 : M2 35 0 20 = nI d := by
          rcases hM2 with rfl | rfl
          · rw [s27 20 (by decide)]; exact hd
          · rw [zu_k (by decide), s27 20 (by decide)]; exact hd
        have t28 : M2 35 0 28 = bI c1 := by
          rcases hM2 with rfl | rfl
          · exact hc1
          · rw [zu_k (by decide)]; exact hc1
        rw [eq_mo_arrive_216]
        simp only [nz_0, nz_1, nz_2, nz_3, nz_4, nz_5, nz_6, nz_7, nz_8, nz_9, nz_10, nz_11, nz_12, nz_13, nz_14, nz_15, nz_16, nz_17, nz_18, nz_19, nz_20, nz_21, nz_22, nz_23, nz_24, nz_25, nz_26, nz_27, nz_28, nz_29, nz_30, nz_31, nz_32, nz_33, nz_34, nz_35, nz_36, nz_37, nz_38, nz_39, nz_40, nz_41, nz_42, nz_43, nz_44, nz_45, nz_46, nz_47, nz_48, nz_49, nz_50, nz_51, nz_63, nz_64, nz_66, nz_127, nz_128, nz_246, nz_247, nz_248, nz_250, nz_251, nz_252, nz_254, nz_255, nz_256, nz_400, nz_2500, nI_add]
        rw [nI_clamp (by omega), if_neg (ni_in (show 8 * q + i < 400 by omega) (by omega))]
        obtain ⟨M', n', a, b, u1, u3, u4, u5, u6, u7, u8⟩ := ih (i + 1) n (zm_up M2 53 0 (8 * q + i) (nI (sp_jn P (A.getD i 0) (B.getD i 0)))) c1 r1 _ _ (by omega) (by omega) (by
            unfold rm_C at hC ⊢
            rw [zu_s (by decide), zu_s (by decide), t52 36 (by decide), t52 37 (by decide)]
            exact hC) (by rw [zu_s (by decide)]; exact t20) (by
            intro j hj
            by_cases e : j = i
            · subst e
              rw [zu_e, if_pos (by omega), hz]
            · rw [zu_k (by omega), t52 53 (by decide), h1 j hj]
              by_cases e2 : j < i
              · rw [if_pos e2, if_pos (by omega)]
              · rw [if_neg e2, if_neg (by omega)]) (by
            intro j hj
            rw [zu_s (by decide), t52 48 (by decide)]
            exact h2 j hj) (by rw [zu_s (by decide)]; exact t28) (by rw [zu_s (by decide)]; exact hr1)
        refine ⟨M', n', a, b, u1, (z2.tr (zo_q.up (by omega))).tr u3, ?_, ?_, u6, ?_, ?_⟩
        · rw [u4, zu_s (by decide), t52 52 (by decide)]
        · rw [u5, zu_s (by decide), t52 50 (by decide)]
        · rw [u7, hr1', hdr, Bool.and_assoc]
          congr 2
          by_cases e1 : (zj P A B).getD i 0 = 0
          · have : 0 ∈ (zj P A B).getD i 0 :: (zj P A B).drop (i + 1) := by rw [e1]; exact List.mem_cons_self
            rw [decide_eq_true e1, decide_eq_true this]
            rfl
          · have : (0 ∈ (zj P A B).getD i 0 :: (zj P A B).drop (i + 1)) ↔ 0 ∈ (zj P A B).drop (i + 1) := by
              rw [List.mem_cons]
              constructor
              · rintro (q | q)
                · exact absurd q.symm e1
                · exact q
              · exact Or.inr
            rw [decide_eq_false e1]
            simp only [this, Bool.not_false, Bool.true_and]
        · rw [u8, hc1', hdr, dr_c (show i < A.length by omega), dec_c, Bool.or_assoc]
      rw [eq_mo_arrive_206]
      simp only [nz_0, nz_1, nz_2, nz_3, nz_4, nz_5, nz_6, nz_7, nz_8, nz_9, nz_10, nz_11, nz_12, nz_13, nz_14, nz_15, nz_16, nz_17, nz_18, nz_19, nz_20, nz_21, nz_22, nz_23, nz_24, nz_25, nz_26, nz_27, nz_28, nz_29, nz_30, nz_31, nz_32, nz_33, nz_34, nz_35, nz_36, nz_37, nz_38, nz_39, nz_40, nz_41, nz_42, nz_43, nz_44, nz_45, nz_46, nz_47, nz_48, nz_49, nz_50, nz_51, nz_63, nz_64, nz_66, nz_127, nz_128, nz_246, nz_247, nz_248, nz_250, nz_251, nz_252, nz_254, nz_255, nz_256, nz_400, nz_2500]
      have r27 : M1 35 0 27 = bI r := by rw [s27 27 (by decide)]; exact h4
      by_cases e0 : sp_jn P (A.getD i 0) (B.getD i 0) = 0
      · rw [if_pos (by rw [e0])]
        exact key2 _ false (Or.inr rfl) zu_e (by simp only [hz, e0, decide_true, Bool.not_true, Bool.and_false])
      · rw [if_neg (ni_ne e0 (by omega) (by omega))]
        exact key2 M1 r (Or.inl rfl) r27 (by simp only [hz, e0, decide_false, Bool.not_false, Bool.and_true])
    by_cases e : sp_jn P (A.getD i 0) (B.getD i 0) = A.getD i 0
    · rw [if_pos (by rw [e])]
      exact key M c (Or.inl rfl) h3 (by simp only [hz, e, decide_true, Bool.not_true, Bool.or_false])
    · rw [if_neg (ni_ne e (by omega) (by omega)), eq_mo_arrive_201]
      simp only [nz_0, nz_1, nz_2, nz_3, nz_4, nz_5, nz_6, nz_7, nz_8, nz_9, nz_10, nz_11, nz_12, nz_13, nz_14, nz_15, nz_16, nz_17, nz_18, nz_19, nz_20, nz_21, nz_22, nz_23, nz_24, nz_25, nz_26, nz_27, nz_28, nz_29, nz_30, nz_31, nz_32, nz_33, nz_34, nz_35, nz_36, nz_37, nz_38, nz_39, nz_40, nz_41, nz_42, nz_43, nz_44, nz_45, nz_46, nz_47, nz_48, nz_49, nz_50, nz_51, nz_63, nz_64, nz_66, nz_127, nz_128, nz_246, nz_247, nz_248, nz_250, nz_251, nz_252, nz_254, nz_255, nz_256, nz_400, nz_2500]
      exact key _ true (Or.inr rfl) zu_e (by simp only [hz, e, decide_false, Bool.not_false, Bool.or_true])
