/-! the class: the FRAMES of THE FLOW, and a coming to a PLACE that has one -/
/-- only what belongs to the PLACE p is another -/
def zo_p (p : Nat) (M M' : zm_M) : Prop := ∀ s i k, ¬ ((s = 21 ∨ s = 22) ∧ i = 0 ∧ k = p) → ¬ (22 < s ∧ s < 26 ∧ i = p) → M' s i k = M s i k
theorem zo_p.rf {p : Nat} {M : zm_M} : zo_p p M M := fun _ _ _ _ _ => rfl
theorem zo_p.tr {p : Nat} {M M1 M2 : zm_M} (h : zo_p p M M1) (h2 : zo_p p M1 M2) : zo_p p M M2 := fun s i k a b => (h2 s i k a b).trans (h s i k a b)
theorem zo_p.F {p : Nat} {M M' : zm_M} (h : zo_F p M M') : zo_p p M M' := fun s i k _ b => h s i k (by omega)
theorem zo_p.w {p : Nat} {M : zm_M} {x : Int32} : zo_p p M (zm_up M 22 0 p x) := by
  intro s i k a b
  by_cases h1 : s = 22
  · subst h1
    by_cases h2 : k = p
    · subst h2
      rw [zu_i (by omega)]
    · rw [zu_k h2]
  · rw [zu_s h1]
theorem zo_p.r {p : Nat} {M : zm_M} {x : Int32} : zo_p p M (zm_up M 21 0 p x) := by
  intro s i k a b
  by_cases h1 : s = 21
  · subst h1
    by_cases h2 : k = p
    · subst h2
      rw [zu_i (by omega)]
    · rw [zu_k h2]
  · rw [zu_s h1]
theorem zo_p.low {p : Nat} {M M' : zm_M} (h : zo_p p M M') {s : Nat} (hs : s < 21) : M' s = M s := by
  funext i k
  exact h s i k (by omega) (by omega)
theorem zo_p.P {p : Nat} {M M' : zm_M} {P : sp_P} (h : zo_p p M M') (hP : rc_P P M) : rc_P P M' := hP.kept fun s hs => h.low (by omega)
theorem rc_F.kept {M M' : zm_M} {f : Nat} {F : sp_F} (h : rc_F M f F) (h3 : M' 23 f = M 23 f) (h4 : M' 24 f = M 24 f) (h5 : M' 25 f = M 25 f) : rc_F M' f F := by
  unfold rc_F at h ⊢
  rw [h3, h4, h5]
  exact h
theorem zo_p.fr {p f : Nat} {M M' : zm_M} {F : sp_F} (h : zo_p p M M') (hf : f ≠ p) (hF : rc_F M f F) : rc_F M' f F := hF.kept (funext fun k => h 23 f k (by omega) (by omega)) (funext fun k => h 24 f k (by omega) (by omega)) (funext fun k => h 25 f k (by omega) (by omega))
theorem fl_or0 (w : Bool) : (bI w ||| nI 0) &&& nI 1 = bI w := by cases w <;> decide
theorem fl_or1 (w : Bool) : (bI w ||| nI 1) &&& nI 1 = nI 1 := by cases w <;> decide
theorem zo_p.a {p s : Nat} {M : zm_M} {k : Nat} {x : Int32} (hs : 22 < s ∧ s < 26) : zo_p p M (zm_up M s p k x) := zo_p.F (zo_F.up hs)
theorem dr_c {L : List Nat} {i : Nat} (h : i < L.length) : L.drop i = L.getD i 0 :: L.drop (i + 1) := by
  rw [List.drop_eq_getElem_cons h, List.getD_eq_getElem?_getD, List.getElem?_eq_getElem h]
  rfl
theorem dec_c {x y : Nat} {A B : List Nat} : (!decide (x :: A = y :: B)) = ((!decide (x = y)) || !decide (A = B)) := by
  by_cases h1 : x = y
  · by_cases h2 : A = B
    · simp [h1, h2]
    · simp [h1, h2]
  · simp [h1]
theorem sc_jl {P : sp_P} (hwP : wf_P P) {p : Nat} (hp : p < 50) {L K : List Nat} (hL : L.length = 10) (hK : K.length = 10) (wL : ∀ t ∈ L, sp_wt t) (wK : ∀ t ∈ K, sp_wt t) : ∀ (k i n : Nat) (M : zm_M) (w : Bool) (o5 : Option zm_V), i + k = 10 → k < n → rc_C P M → (∀ j, j < 10 → M 24 p j = nI (if j < i then (zj P L K).getD j 0 else L.getD j 0)) → (∀ j, j < 10 → M 24 100 j = nI (K.getD j 0)) → M 22 0 p = bI w → ∃ M' n' o', rr_fl_joinAt n 49 [some (.inr (18, 0)), some (.inl (nI p)), some (.inr (23, 100)), some (.inr (23, p)), some (.inl (nI i)), o5] [] M = rr_fl_joinAt (n' + 1) 123 [some (.inr (18, 0)), some (.inl (nI p)), some (.inr (23, 100)), some (.inr (23, p)), some (.inl (nI 0)), o'] [] M' ∧ n ≤ n' + 1 + k ∧ zo_p p M M' ∧ M' 21 = M 21 ∧ M' 23 = M 23 ∧ M' 25 = M 25 ∧ (∀ j, j < 10 → M' 24 p j = nI ((zj P L K).getD j 0)) ∧ M' 22 0 p = bI (w || !decide ((zj P L K).drop i = L.drop i)) := by
  have hzl : (zj P L K).length = 10 := by rw [zj_len (by rw [hL, hK]), hL]
  intro k
  induction k with
  | zero =>
    intro i n M w o5 hi hn hC h1 h2 h3
    obtain ⟨n, rfl⟩ : ∃ m, n = m + 1 := ⟨n - 1, by omega⟩
    rw [eq_fl_joinAt_49]
    simp only [nz_0, nz_1, nz_2, nz_3, nz_4, nz_5, nz_6, nz_7, nz_8, nz_9, nz_10, nz_11, nz_12, nz_13, nz_14, nz_15, nz_16, nz_17, nz_18, nz_19, nz_20, nz_21, nz_22, nz_23, nz_24, nz_25, nz_26, nz_27, nz_28, nz_29, nz_30, nz_31, nz_32, nz_33, nz_34, nz_35, nz_36, nz_37, nz_38, nz_39, nz_40, nz_41, nz_42, nz_43, nz_44, nz_45, nz_46, nz_47, nz_48, nz_49, nz_50, nz_51, nz_63, nz_64, nz_66, nz_127, nz_128, nz_246, nz_247, nz_248, nz_250, nz_251, nz_252, nz_254, nz_255, nz_256, nz_400, nz_2500]
    rw [if_neg (ni_nl (by omega) (by omega) (by omega))]
    refine ⟨M, n, o5, rfl, by omega, zo_p.rf, rfl, rfl, rfl, ?_, ?_⟩
    · intro j hj
      rw [h1 j hj, if_pos (by omega)]
    · rw [List.drop_eq_nil_of_le (by omega), List.drop_eq_nil_of_le (by omega)]
      simpa using h3
  | succ k ih =>
    intro i n M w o5 hi hn hC h1 h2 h3
    obtain ⟨n, rfl⟩ : ∃ m, n = m + 1 := ⟨n - 1, by omega⟩
    have wi := wt_gd wL i
    have ki := wt_gd wK i
    have ji := jn_wt hwP.1 wi ki
    have jl := sp_wt_lt ji
    have ll := sp_wt_lt wi
    have hz : (zj P L K).getD i 0 = sp_jn P (L.getD i 0) (K.getD i 0) := zj_gd (by omega) (by omega)
    have hMi := h1 i (by omega)
    rw [if_neg (by omega)] at hMi
    rw [eq_fl_joinAt_49]
    simp only [nz_0, nz_1, nz_2, nz_3, nz_4, nz_5, nz_6, nz_7, nz_8, nz_9, nz_10, nz_11, nz_12, nz_13, nz_14, nz_15, nz_16, nz_17, nz_18, nz_19, nz_20, nz_21, nz_22, nz_23, nz_24, nz_25, nz_26, nz_27, nz_28, nz_29, nz_30, nz_31, nz_32, nz_33, nz_34, nz_35, nz_36, nz_37, nz_38, nz_39, nz_40, nz_41, nz_42, nz_43, nz_44, nz_45, nz_46, nz_47, nz_48, nz_49, nz_50, nz_51, nz_63, nz_64, nz_66, nz_127, nz_128, nz_246, nz_247, nz_248, nz_250, nz_251, nz_252, nz_254, nz_255, nz_256, nz_400, nz_2500, nI_add]
    rw [if_pos (ni_lt (by omega) (by omega) (by omega)), nI_clamp (by omega), nI_clamp (by omega), if_neg (ni_in (show i < 10 by omega) (by omega)), if_neg (ni_in (show i < 10 by omega) (by omega)), hMi, h2 i (by omega), sc_join hwP.1 hC wi ki]
    simp only [Option.bind_some]
    rw [if_neg (ni_in hp (by omega)), if_neg (ni_in (show i < 10 by omega) (by omega)), hMi, h3]
    have key : ∀ (w1 : Bool), w1 = (w || !decide ((zj P L K).getD i 0 = L.getD i 0)) → ∃ M' n' o', rr_fl_joinAt n 49 [some (.inr (18, 0)), some (.inl (nI p)), some (.inr (23, 100)), some (.inr (23, p)), some (.inl (nI (i + 1))), some (.inl (nI (sp_jn P (L.getD i 0) (K.getD i 0))))] [] (zm_up (zm_up M 22 0 p (bI w1)) 24 p i (nI (sp_jn P (L.getD i 0) (K.getD i 0)))) = rr_fl_joinAt (n' + 1) 123 [some (.inr (18, 0)), some (.inl (nI p)), some (.inr (23, 100)), some (.inr (23, p)), some (.inl (nI 0)), o'] [] M' ∧ n + 1 ≤ n' + 1 + (k + 1) ∧ zo_p p M M' ∧ M' 21 = M 21 ∧ M' 23 = M 23 ∧ M' 25 = M 25 ∧ (∀ j, j < 10 → M' 24 p j = nI ((zj P L K).getD j 0)) ∧ M' 22 0 p = bI (w || !decide ((zj P L K).drop i = L.drop i)) := by
      intro w1 hw1
      obtain ⟨M', n', o', r1, r2, r3, r4, r5, r6, r7, r8⟩ := ih (i + 1) n (zm_up (zm_up M 22 0 p (bI w1)) 24 p i (nI (sp_jn P (L.getD i 0) (K.getD i 0)))) w1 (some (.inl (nI (sp_jn P (L.getD i 0) (K.getD i 0))))) (by omega) (by omega) (by
          unfold rc_C at hC ⊢
          rw [zu_s (by decide), zu_s (by decide), zu_s (by decide), zu_s (by decide), zu_s (by decide), zu_s (by decide)]
          exact hC) (by
          intro j hj
          by_cases e : j = i
          · subst e
            rw [zu_e, if_pos (by omega), hz]
          · rw [zu_k e, zu_s (by decide), h1 j hj]
            by_cases e2 : j < i
            · rw [if_pos e2, if_pos (by omega)]
            · rw [if_neg e2, if_neg (by omega)]) (by
          intro j hj
          rw [zu_i (by omega), zu_s (by decide)]
          exact h2 j hj) (by
          rw [zu_s (by decide), zu_e])
      refine ⟨M', n', o', r1, by omega, (zo_p.w.tr (zo_p.a (by omega))).tr r3, ?_, ?_, ?_, r7, ?_⟩
      · rw [r4, zu_s (by decide), zu_s (by decide)]
      · rw [r5, zu_s (by decide), zu_s (by decide)]
      · rw [r6, zu_s (by decide), zu_s (by decide)]
      · rw [r8, hw1, dr_c (show i < (zj P L K).length by omega), dr_c (show i < L.length by omega), dec_c, Bool.or_assoc]
    by_cases e : sp_jn P (L.getD i 0) (K.getD i 0) = L.getD i 0
    · rw [if_pos (by rw [e]), if_neg (ni_in hp (by omega)), if_neg (ni_in (show i < 10 by omega) (by omega)), fl_or0]
      exact key w (by simp only [hz, e, decide_true, Bool.not_true, Bool.or_false])
    · rw [if_neg (ni_ne e (by omega) (by omega)), if_neg (ni_in hp (by omega)), if_neg (ni_in (show i < 10 by omega) (by omega)), fl_or1]
      exact key true (by simp only [hz, e, decide_false, Bool.not_false, Bool.or_true])
