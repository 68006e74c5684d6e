/-! the reference: lists and bytes -/
def rm_L (M : zm_M) (X : List Nat) : Prop := M 35 0 37 = nI X.length ∧ X.length ≤ 10 ∧ (∀ i, i < X.length → M 59 0 i = nI (X.getD i 0)) ∧ ∀ t ∈ X, sp_wt t
def rm_K (M : zm_M) (X : List Nat) : Prop := M 35 0 38 = nI X.length ∧ X.length ≤ 10 ∧ (∀ i, i < X.length → M 60 0 i = nI (X.getD i 0)) ∧ ∀ t ∈ X, sp_wt t
def rm_W (M : zm_M) (B : List Nat) : Prop := M 35 0 40 = nI B.length ∧ ∀ i, i < B.length → M 61 0 i = nI (B.getD i 0)
/-- only one number of the reference, and one array -/
def zo_n (c s : Nat) (M M' : zm_M) : Prop := ∀ s' i k, ¬ (s' = 35 ∧ k = c) → s' ≠ s → M' s' i k = M s' i k
theorem zo_n.rf {c s : Nat} {M : zm_M} : zo_n c s M M := fun _ _ _ _ _ => rfl
theorem zo_n.tr {c s : Nat} {M M1 M2 : zm_M} (h : zo_n c s M M1) (h2 : zo_n c s M1 M2) : zo_n c s M M2 := fun s' i k a b => (h2 s' i k a b).trans (h s' i k a b)
theorem zo_n.c {c s : Nat} {M : zm_M} {x : Int32} : zo_n c s M (zm_up M 35 0 c x) := by
  intro s' i k a b
  by_cases e : s' = 35
  · rw [zu_k (by omega)]
  · rw [zu_s e]
theorem zo_n.a {c s j : Nat} {M : zm_M} {x : Int32} : zo_n c s M (zm_up M s 0 j x) := fun s' i k a b => by rw [zu_s b]
theorem zo_n.L {c s : Nat} {M M' : zm_M} {X : List Nat} (h : zo_n c s M M') (hc : c ≠ 37) (hs : s ≠ 59) (hs5 : s ≠ 35) (hX : rm_L M X) : rm_L M' X := by
  refine ⟨?_, hX.2.1, ?_, hX.2.2.2⟩
  · rw [h 35 0 37 (by omega) (by omega)]
    exact hX.1
  · intro i hi
    rw [h 59 0 i (by omega) (by omega)]
    exact hX.2.2.1 i hi
theorem zo_n.K {c s : Nat} {M M' : zm_M} {X : List Nat} (h : zo_n c s M M') (hc : c ≠ 38) (hs : s ≠ 60) (hs5 : s ≠ 35) (hX : rm_K M X) : rm_K M' X := by
  refine ⟨?_, hX.2.1, ?_, hX.2.2.2⟩
  · rw [h 35 0 38 (by omega) (by omega)]
    exact hX.1
  · intro i hi
    rw [h 60 0 i (by omega) (by omega)]
    exact hX.2.2.1 i hi
theorem zo_n.W {c s : Nat} {M M' : zm_M} {X : List Nat} (h : zo_n c s M M') (hc : c ≠ 40) (hs : s ≠ 61) (hs5 : s ≠ 35) (hX : rm_W M X) : rm_W M' X := by
  refine ⟨?_, ?_⟩
  · rw [h 35 0 40 (by omega) (by omega)]
    exact hX.1
  · intro i hi
    rw [h 61 0 i (by omega) (by omega)]
    exact hX.2 i hi
theorem zo_n.F {c s : Nat} {M M' : zm_M} {F : sp_F} (h : zo_n c s M M') (hc : 21 < c) (hs : 48 < s) (hF : rm_F M F) : rm_F M' F := by
  unfold rm_F at hF ⊢
  rw [show M' 47 0 = M 47 0 from funext fun k => h 47 0 k (by omega) (by omega), show M' 48 0 = M 48 0 from funext fun k => h 48 0 k (by omega) (by omega), h 35 0 20 (by omega) (by omega), h 35 0 21 (by omega) (by omega)]
  exact hF
theorem zo_n.P {c s : Nat} {M M' : zm_M} {P : sp_P} (h : zo_n c s M M') (hc : 8 < c) (hs : 45 < s) (hP : rm_P P M) : rm_P P M' := hP.kept (fun s h1 h2 => by funext i k; exact h s i k (by omega) (by omega)) (fun k hk => h 35 0 k (by omega) (by omega))
theorem zo_n.S {c s : Nat} {M M' : zm_M} {A : af_A} (h : zo_n c s M M') (hs : 53 < s) (hS : rm_S M A) : rm_S M' A := by
  intro p hp
  obtain ⟨h1, h2⟩ := hS p hp
  refine ⟨by rw [h 49 0 p (by omega) (by omega)]; exact h1, ?_⟩
  intro F hF
  have := h2 F hF
  unfold rm_G at this ⊢
  rw [show M' 52 = M 52 from funext fun i => funext fun k => h 52 i k (by omega) (by omega), show M' 53 = M 53 from funext fun i => funext fun k => h 53 i k (by omega) (by omega), h 51 0 p (by omega) (by omega), h 50 0 p (by omega) (by omega)]
  exact this
theorem sp_en_len : ∀ L : List Nat, (sp_en L).length ≤ L.length
  | [] => by simp [sp_en]
  | [_] => by simp [sp_en]
  | t :: u :: L => by
    have h1 := sp_en_len L
    have h2 := sp_en_len (u :: L)
    unfold sp_en
    split <;> simp only [List.length_cons] at * <;> omega
theorem sp_en_wt : ∀ {L : List Nat}, (∀ t ∈ L, sp_wt t) → ∀ t ∈ sp_en L, sp_wt t
  | [], _ => fun t ht => by simp [sp_en] at ht
  | [x], h => fun t ht => h t ht
  | x :: u :: L, h => by
    have h1 := sp_en_wt (L := L) (fun t ht => h t (List.mem_cons_of_mem _ (List.mem_cons_of_mem _ ht)))
    have h2 := sp_en_wt (L := u :: L) (fun t ht => h t (List.mem_cons_of_mem _ ht))
    intro t ht
    unfold sp_en at ht
    split at ht
    · rcases List.mem_cons.mp ht with rfl | ht
      · exact h _ List.mem_cons_self
      · exact h1 t ht
    · rcases List.mem_cons.mp ht with rfl | ht
      · exact h _ List.mem_cons_self
      · exact h2 t ht
theorem so_el1 {L : List Nat} (hl : L.length = 10) (hw : ∀ t ∈ L, sp_wt t) : ∀ (k i n : Nat) (M : zm_M) (X : List Nat), i + k = 11 → k < n → rm_L M X → X.length ≤ i → (∀ j, j < 10 → M 47 0 j = nI (L.getD j 0)) → ∃ M' n' v, rr_mo_enlist n 7 [some (.inr (35, 0)), some (.inl (nI i))] [] M = rr_mo_enlist (n' + 1) 59 [some (.inr (35, 0)), some (.inl v)] [] M' ∧ n ≤ n' + 1 + k ∧ zo_n 37 59 M M' ∧ rm_L M' (X ++ sp_en (L.drop i)) := by
  intro k
  induction k using Nat.strongRecOn with
  | ind k ih =>
    intro i n M X hk hn hX hs hM
    obtain ⟨n, rfl⟩ : ∃ m, n = m + 1 := ⟨n - 1, by omega⟩
    by_cases hi : i < 10
    · have ht := wt_gd hw i
      have htl := sp_wt_lt ht
      have hwd := sp_wd_le (L.getD i 0)
      rw [eq_mo_enlist_7]
      simp only [nz_0, nz_1, nz_2, nz_3, nz_4, nz_5, nz_6, nz_7, nz_8, nz_9, nz_10, nz_11, nz_12, nz_13, nz_14, nz_15, nz_16, nz_17, nz_18, nz_19, nz_20, nz_21, nz_22, nz_23, nz_24, nz_25, nz_26, nz_27, nz_28, nz_29, nz_30, nz_31, nz_32, nz_33, nz_34, nz_35, nz_36, nz_37, nz_38, nz_39, nz_40, nz_41, nz_42, nz_43, nz_44, nz_45, nz_46, nz_47, nz_48, nz_49, nz_50, nz_51, nz_63, nz_64, nz_66, nz_127, nz_128, nz_246, nz_247, nz_248, nz_250, nz_251, nz_252, nz_254, nz_255, nz_256, nz_400, nz_2500, nI_add]
      rw [if_pos (ni_lt hi (by omega) (by omega)), nI_clamp (by omega), hX.1, nI_clamp (by omega)]
      simp only [if_neg (ni_in hi (show i < 2 ^ 31 by omega))]
      rw [if_neg (ni_in (show X.length < 12 by omega) (by omega)), hM i hi, so_wide (by omega), Option.bind_some, nI_add]
      simp only [bI_0]
      have hX1 : rm_L (zm_up (zm_up M 59 0 X.length (nI (L.getD i 0))) 35 0 37 (nI (X.length + 1))) (X ++ [L.getD i 0]) := by
        refine ⟨?_, by simp; omega, ?_, ?_⟩
        · rw [zu_e, List.length_append]
          rfl
        · intro j hj
          rw [zu_s (by decide), gd_snoc]
          by_cases e2 : j = X.length
          · rw [if_pos e2, e2, zu_e]
          · rw [if_neg e2, zu_k e2]
            rw [List.length_append] at hj
            exact hX.2.2.1 j (by simp at hj; omega)
        · intro u hu
          rcases List.mem_append.mp hu with hu | hu
          · exact hX.2.2.2 u hu
          · rw [List.mem_singleton] at hu
            rw [hu]
            exact ht
      have z1 : zo_n 37 59 M (zm_up (zm_up M 59 0 X.length (nI (L.getD i 0))) 35 0 37 (nI (X.length + 1))) := zo_n.a.tr zo_n.c
      have hM1 : ∀ j, j < 10 → zm_up (zm_up M 59 0 X.length (nI (L.getD i 0))) 35 0 37 (nI (X.length + 1)) 47 0 j = nI (L.getD j 0) := by
        intro j hj
        rw [zu_s (by decide), zu_s (by decide)]
        exact hM j hj
      rw [dr_c (by omega)]
      by_cases e : sp_wd (L.getD i 0) = 2
      · rw [if_neg (by rw [e]; decide)]
        by_cases e9 : i = 9
        · -- the last one, wide
          subst e9
          obtain ⟨n, rfl⟩ : ∃ m, n = m + 1 := ⟨n - 1, by omega⟩
          rw [eq_mo_enlist_7]
          simp only [nz_0, nz_1, nz_2, nz_3, nz_4, nz_5, nz_6, nz_7, nz_8, nz_9, nz_10, nz_11, nz_12, nz_13, nz_14, nz_15, nz_16, nz_17, nz_18, nz_19, nz_20, nz_21, nz_22, nz_23, nz_24, nz_25, nz_26, nz_27, nz_28, nz_29, nz_30, nz_31, nz_32, nz_33, nz_34, nz_35, nz_36, nz_37, nz_38, nz_39, nz_40, nz_41, nz_42, nz_43, nz_44, nz_45, nz_46, nz_47, nz_48, nz_49, nz_50, nz_51, nz_63, nz_64, nz_66, nz_127, nz_128, nz_246, nz_247, nz_248, nz_250, nz_251, nz_252, nz_254, nz_255, nz_256, nz_400, nz_2500]
          rw [if_neg (by decide), List.drop_eq_nil_of_le (show L.length ≤ 9 + 1 by omega)]
          exact ⟨_, n, _, rfl, by omega, z1, hX1⟩
        · obtain ⟨M2, n', v, b1, b2, b3, b4⟩ := ih (k - 2) (by omega) (i + 1 + 1) n _ (X ++ [L.getD i 0]) (by omega) (by omega) hX1 (by simp; omega) hM1
          rw [dr_c (show i + 1 < L.length by omega), sp_en_w e]
          refine ⟨M2, n', v, b1, by omega, z1.tr b3, ?_⟩
          rw [List.append_assoc] at b4
          exact b4
      · rw [if_pos (beq_eq_false_iff_ne.mpr e)]
        obtain ⟨M2, n', v, b1, b2, b3, b4⟩ := ih (k - 1) (by omega) (i + 1) n _ (X ++ [L.getD i 0]) (by omega) (by omega) hX1 (by simp; omega) hM1
        rw [sp_en_c e]
        refine ⟨M2, n', v, b1, by omega, z1.tr b3, ?_⟩
        rw [List.append_assoc] at b4
        exact b4
    · rw [eq_mo_enlist_7]
      simp only [nz_0, nz_1, nz_2, nz_3, nz_4, nz_5, nz_6, nz_7, nz_8, nz_9, nz_10, nz_11, nz_12, nz_13, nz_14, nz_15, nz_16, nz_17, nz_18, nz_19, nz_20, nz_21, nz_22, nz_23, nz_24, nz_25, nz_26, nz_27, nz_28, nz_29, nz_30, nz_31, nz_32, nz_33, nz_34, nz_35, nz_36, nz_37, nz_38, nz_39, nz_40, nz_41, nz_42, nz_43, nz_44, nz_45, nz_46, nz_47, nz_48, nz_49, nz_50, nz_51, nz_63, nz_64, nz_66, nz_127, nz_128, nz_246, nz_247, nz_248, nz_250, nz_251, nz_252, nz_254, nz_255, nz_256, nz_400, nz_2500]
      rw [if_neg (ni_nl (by omega) (by omega) (by omega)), List.drop_eq_nil_of_le (by omega)]
      refine ⟨M, n, _, rfl, by omega, zo_n.rf, ?_⟩
      rw [show sp_en [] = [] from rfl, List.append_nil]
      exact hX
theorem so_el2 {v : Int32} : ∀ (Y : List Nat) (n : Nat) (M : zm_M), Y.length < n → rm_L M Y.reverse → ∃ M', rr_mo_enlist n 59 [some (.inr (35, 0)), some (.inl v)] [] M = some M' ∧ zo_n 37 59 M M' ∧ rm_L M' (Y.dropWhile fun t => t == 0).reverse := by
  intro Y
  induction Y with
  | nil =>
    intro n M hn hX
    obtain ⟨n, rfl⟩ : ∃ m, n = m + 1 := ⟨n - 1, by omega⟩
    have h0 : M 35 0 37 = nI 0 := hX.1
    rw [eq_mo_enlist_59, h0]
    simp only [nz_0, nz_1, nz_2, nz_3, nz_4, nz_5, nz_6, nz_7, nz_8, nz_9, nz_10, nz_11, nz_12, nz_13, nz_14, nz_15, nz_16, nz_17, nz_18, nz_19, nz_20, nz_21, nz_22, nz_23, nz_24, nz_25, nz_26, nz_27, nz_28, nz_29, nz_30, nz_31, nz_32, nz_33, nz_34, nz_35, nz_36, nz_37, nz_38, nz_39, nz_40, nz_41, nz_42, nz_43, nz_44, nz_45, nz_46, nz_47, nz_48, nz_49, nz_50, nz_51, nz_63, nz_64, nz_66, nz_127, nz_128, nz_246, nz_247, nz_248, nz_250, nz_251, nz_252, nz_254, nz_255, nz_256, nz_400, nz_2500]
    rw [if_neg (show ¬ nI 0 < nI 0 by decide)]
    exact ⟨M, rfl, zo_n.rf, hX⟩
  | cons y Y ih =>
    intro n M hn hX
    obtain ⟨n, rfl⟩ : ∃ m, n = m + 1 := ⟨n - 1, by omega⟩
    simp only [List.length_cons] at hn
    have hl : Y.length + 1 ≤ 10 := by
      have := hX.2.1
      simpa using this
    have hr : (y :: Y).reverse = Y.reverse ++ [y] := List.reverse_cons
    have h1 : M 35 0 37 = nI (Y.length + 1) := by
      rw [hX.1]
      simp
    have hy := hX.2.2.2 y (by simp)
    have hyl := sp_wt_lt hy
    have hg : M 59 0 Y.length = nI y := by
      rw [hX.2.2.1 Y.length (by simp), hr, gd_snoc, if_pos (by simp)]
    rw [eq_mo_enlist_59, h1]
    simp only [nz_0, nz_1, nz_2, nz_3, nz_4, nz_5, nz_6, nz_7, nz_8, nz_9, nz_10, nz_11, nz_12, nz_13, nz_14, nz_15, nz_16, nz_17, nz_18, nz_19, nz_20, nz_21, nz_22, nz_23, nz_24, nz_25, nz_26, nz_27, nz_28, nz_29, nz_30, nz_31, nz_32, nz_33, nz_34, nz_35, nz_36, nz_37, nz_38, nz_39, nz_40, nz_41, nz_42, nz_43, nz_44, nz_45, nz_46, nz_47, nz_48, nz_49, nz_50, nz_51, nz_63, nz_64, nz_66, nz_127, nz_128, nz_246, nz_247, nz_248, nz_250, nz_251, nz_252, nz_254, nz_255, nz_256, nz_400, nz_2500]
    rw [if_pos (ni_lt (by omega) (by omega) (by omega)), pk_sub (by omega), show Y.length + 1 - 1 = Y.length by omega, nI_clamp (by omega), if_neg (ni_in (show Y.length < 12 by omega) (by omega)), hg]
    by_cases e : y = 0
    · rw [if_pos (by rw [e])]
      obtain ⟨M2, b1, b2, b3⟩ := ih n (zm_up M 35 0 37 (nI Y.length)) (by omega) (by
        refine ⟨?_, by simp; omega, ?_, ?_⟩
        · rw [zu_e]
          simp
        · intro i hi
          rw [List.length_reverse] at hi
          rw [zu_s (by decide), hX.2.2.1 i (by simp; omega), hr, gd_snoc, if_neg (by simp; omega)]
        · intro t ht
          exact hX.2.2.2 t (by rw [hr]; exact List.mem_append_left _ ht))
      refine ⟨M2, b1, zo_n.c.tr b2, ?_⟩
      rw [List.dropWhile_cons, if_pos (by simp [e])]
      exact b3
    · rw [if_neg (ni_ne e (by omega) (by omega))]
      refine ⟨M, rfl, zo_n.rf, ?_⟩
      rw [List.dropWhile_cons, if_neg (by simp [e])]
      exact hX
theorem sm_enlist {M : zm_M} {F : sp_F} (hF : rm_F M F) (hw : wf_F F) : ∃ M', fn_mo_enlist [.inr (35, 0)] M = some M' ∧ zo_n 37 59 M M' ∧ rm_L M' (sp_lst F.1) := by
  have hl := hF.1.1
  rw [eq_mo_enlist, show (1073741824 : Nat) = 1073741823 + 1 from rfl, eq_mo_enlist_0, nz_0]
  have h0 : rm_L (zm_up M 35 0 37 (nI 0)) [] := ⟨zu_e, by decide, fun i hi => by simp at hi, fun t ht => by simp at ht⟩
  obtain ⟨M1, n1, v, a1, a2, a3, a4⟩ := so_el1 hl hw.1 11 0 (1073741823 + 1) (zm_up M 35 0 37 (nI 0)) [] (by omega) (by omega) h0 (by simp) (by
    intro j hj
    rw [zu_s (by decide)]
    exact hF.1.2.1 j hj)
  rw [List.nil_append, List.drop_zero] at a4
  have hlen := a4.2.1
  obtain ⟨M2, b1, b2, b3⟩ := so_el2 (v := v) (sp_en F.1).reverse (n1 + 1) M1 (by rw [List.length_reverse]; omega) (by rw [List.reverse_reverse]; exact a4)
  rw [a1, b1]
  exact ⟨M2, rfl, (zo_n.c.tr a3).tr b2, b3⟩
theorem so_ke {X : List Nat} : ∀ (k i n : Nat) (M : zm_M), i + k = X.length → k < n → rm_L M X → (∀ j, j < i → M 60 0 j = nI (X.getD j 0)) → ∃ M', rr_mo_keep n 2 [some (.inr (35, 0)), some (.inl (nI i))] [] M = some M' ∧ zo_n 38 60 M M' ∧ rm_K M' X := by
  intro k
  induction k with
  | zero =>
    intro i n M hk hn hX hM
    obtain ⟨n, rfl⟩ : ∃ m, n = m + 1 := ⟨n - 1, by omega⟩
    have hl := hX.2.1
    rw [eq_mo_keep_2, hX.1, if_neg (ni_nl (by omega) (by omega) (by omega))]
    refine ⟨_, rfl, zo_n.c, zu_e, hl, ?_, hX.2.2.2⟩
    intro j hj
    rw [zu_s (by decide)]
    exact hM j (by omega)
  | succ k ih =>
    intro i n M hk hn hX hM
    obtain ⟨n, rfl⟩ : ∃ m, n = m + 1 := ⟨n - 1, by omega⟩
    have hl := hX.2.1
    rw [eq_mo_keep_2, hX.1, if_pos (ni_lt (by omega) (by omega) (by omega)), nI_clamp (by omega)]
    simp only [nz_0, nz_1, nz_2, nz_3, nz_4, nz_5, nz_6, nz_7, nz_8, nz_9, nz_10, nz_11, nz_12, nz_13, nz_14, nz_15, nz_16, nz_17, nz_18, nz_19, nz_20, nz_21, nz_22, nz_23, nz_24, nz_25, nz_26, nz_27, nz_28, nz_29, nz_30, nz_31, nz_32, nz_33, nz_34, nz_35, nz_36, nz_37, nz_38, nz_39, nz_40, nz_41, nz_42, nz_43, nz_44, nz_45, nz_46, nz_47, nz_48, nz_49, nz_50, nz_51, nz_63, nz_64, nz_66, nz_127, nz_128, nz_246, nz_247, nz_248, nz_250, nz_251, nz_252, nz_254, nz_255, nz_256, nz_400, nz_2500, nI_add]
    simp only [if_neg (ni_in (show i < 12 by omega) (show i < 2 ^ 31 by omega))]
    rw [hX.2.2.1 i (by omega)]
    obtain ⟨M', h1, h2, h3⟩ := ih (i + 1) n (zm_up M 60 0 i (nI (X.getD i 0))) (by omega) (by omega) ((zo_n.a (c := 38) (s := 60)).L (by omega) (by omega) (by omega) hX) (by
      intro j hj
      by_cases e : j = i
      · subst e
        exact zu_e
      · rw [zu_k e]
        exact hM j (by omega))
    exact ⟨M', h1, zo_n.a.tr h2, h3⟩
theorem sm_keep {M : zm_M} {X : List Nat} (hX : rm_L M X) : ∃ M', fn_mo_keep [.inr (35, 0)] M = some M' ∧ zo_n 38 60 M M' ∧ rm_K M' X := by
  have hl := hX.2.1
  rw [eq_mo_keep, show (1073741824 : Nat) = 1073741823 + 1 from rfl, eq_mo_keep_0, nz_0]
  exact so_ke X.length 0 _ M (by omega) (by omega) hX (fun j hj => by omega)
theorem so_bg {M : zm_M} {X Y : List Nat} (hX : rm_L M X) (hY : rm_K M Y) {m : Nat} (hm : m = min X.length Y.length) : ∀ (k i n : Nat), i + k = m → k < n → rr_mo_begins n 25 [some (.inr (35, 0)), some (.inl (nI m)), some (.inl (nI i))] [] M = some (bI (decide (sp_cp (X.drop i) (Y.drop i) = m - i)), M) := by
  have hXl := hX.2.1
  have hYl := hY.2.1
  intro k
  induction k with
  | zero =>
    intro i n hk hn
    obtain ⟨n, rfl⟩ : ∃ m, n = m + 1 := ⟨n - 1, by omega⟩
    have := sp_cp_le (X.drop i) (Y.drop i)
    rw [List.length_drop, List.length_drop] at this
    rw [eq_mo_begins_25, if_neg (ni_nl (by omega) (by omega) (by omega)), decide_eq_true (by omega), nz_1]
    rfl
  | succ k ih =>
    intro i n hk hn
    obtain ⟨n, rfl⟩ : ∃ m, n = m + 1 := ⟨n - 1, by omega⟩
    have hx := sp_wt_lt (wt_gd hX.2.2.2 i)
    have hy := sp_wt_lt (wt_gd hY.2.2.2 i)
    rw [eq_mo_begins_25, if_pos (ni_lt (by omega) (by omega) (by omega)), nI_clamp (by omega)]
    simp only [nz_0, nz_1, nz_2, nz_3, nz_4, nz_5, nz_6, nz_7, nz_8, nz_9, nz_10, nz_11, nz_12, nz_13, nz_14, nz_15, nz_16, nz_17, nz_18, nz_19, nz_20, nz_21, nz_22, nz_23, nz_24, nz_25, nz_26, nz_27, nz_28, nz_29, nz_30, nz_31, nz_32, nz_33, nz_34, nz_35, nz_36, nz_37, nz_38, nz_39, nz_40, nz_41, nz_42, nz_43, nz_44, nz_45, nz_46, nz_47, nz_48, nz_49, nz_50, nz_51, nz_63, nz_64, nz_66, nz_127, nz_128, nz_246, nz_247, nz_248, nz_250, nz_251, nz_252, nz_254, nz_255, nz_256, nz_400, nz_2500, nI_add]
    simp only [if_neg (ni_in (show i < 12 by omega) (show i < 2 ^ 31 by omega))]
    rw [hX.2.2.1 i (by omega), hY.2.2.1 i (by omega), dr_c (show i < X.length by omega), dr_c (show i < Y.length by omega), sp_cp]
    by_cases e : X.getD i 0 = Y.getD i 0
    · rw [if_pos (by rw [e]), if_pos e, ih (i + 1) n (by omega) (by omega)]
      have hd : decide (sp_cp (X.drop (i + 1)) (Y.drop (i + 1)) = m - (i + 1)) = decide (sp_cp (X.drop (i + 1)) (Y.drop (i + 1)) + 1 = m - i) := decide_eq_decide.mpr (by omega)
      rw [hd]
    · rw [if_neg (ni_ne e (by omega) (by omega)), if_neg e, decide_eq_false (by omega)]
      rfl
theorem sm_begins {M : zm_M} {X Y : List Nat} (hX : rm_L M X) (hY : rm_K M Y) : fn_mo_begins [.inr (35, 0)] M = some (bI (decide (sp_cp X Y = min X.length Y.length)), M) := by
  have hXl := hX.2.1
  have hYl := hY.2.1
  rw [eq_mo_begins, show (1073741824 : Nat) = 1073741823 + 1 from rfl, eq_mo_begins_0, hX.1, hY.1]
  simp only [nz_0, nz_1, nz_2, nz_3, nz_4, nz_5, nz_6, nz_7, nz_8, nz_9, nz_10, nz_11, nz_12, nz_13, nz_14, nz_15, nz_16, nz_17, nz_18, nz_19, nz_20, nz_21, nz_22, nz_23, nz_24, nz_25, nz_26, nz_27, nz_28, nz_29, nz_30, nz_31, nz_32, nz_33, nz_34, nz_35, nz_36, nz_37, nz_38, nz_39, nz_40, nz_41, nz_42, nz_43, nz_44, nz_45, nz_46, nz_47, nz_48, nz_49, nz_50, nz_51, nz_63, nz_64, nz_66, nz_127, nz_128, nz_246, nz_247, nz_248, nz_250, nz_251, nz_252, nz_254, nz_255, nz_256, nz_400, nz_2500]
  by_cases e : X.length < Y.length
  · rw [if_pos (ni_lt e (by omega) (by omega)), so_bg hX hY (show X.length = min X.length Y.length by omega) X.length 0 _ (by omega) (by omega), List.drop_zero, List.drop_zero, Nat.sub_zero, Nat.min_eq_left (by omega)]
  · rw [if_neg (ni_nl (by omega) (by omega) (by omega)), so_bg hX hY (show Y.length = min X.length Y.length by omega) Y.length 0 _ (by omega) (by omega), List.drop_zero, List.drop_zero, Nat.sub_zero, Nat.min_eq_right (by omega)]
/-! bytes -/
theorem sm_write {M : zm_M} {x : Nat} {B : List Nat} (h : rm_W M B) (hl : B.length < 2500) : ∃ M', fn_mo_write [.inr (35, 0), .inl (nI x)] M = some M' ∧ zo_n 40 61 M M' ∧ rm_W M' (B ++ [x]) := by
  rw [eq_mo_write, h.1, nI_clamp (by omega)]
  simp only [nz_0, nz_1, nz_2, nz_3, nz_4, nz_5, nz_6, nz_7, nz_8, nz_9, nz_10, nz_11, nz_12, nz_13, nz_14, nz_15, nz_16, nz_17, nz_18, nz_19, nz_20, nz_21, nz_22, nz_23, nz_24, nz_25, nz_26, nz_27, nz_28, nz_29, nz_30, nz_31, nz_32, nz_33, nz_34, nz_35, nz_36, nz_37, nz_38, nz_39, nz_40, nz_41, nz_42, nz_43, nz_44, nz_45, nz_46, nz_47, nz_48, nz_49, nz_50, nz_51, nz_63, nz_64, nz_66, nz_127, nz_128, nz_246, nz_247, nz_248, nz_250, nz_251, nz_252, nz_254, nz_255, nz_256, nz_400, nz_2500, nI_add]
  rw [if_neg (ni_in hl (by omega))]
  refine ⟨_, rfl, zo_n.a.tr zo_n.c, ?_, ?_⟩
  · rw [zu_e, List.length_append]
    rfl
  · intro i hi
    rw [zu_s (by decide), gd_snoc]
    by_cases e2 : i = B.length
    · rw [if_pos e2, e2, zu_e]
    · rw [if_neg e2, zu_k e2]
      rw [List.length_append] at hi
      exact h.2 i (by simp at hi; omega)
theorem sm_writeTwo {M : zm_M} {v : Nat} {B : List Nat} (h : rm_W M B) (hl : B.length + 2 ≤ 2500) (hv : v < 2 ^ 31) : ∃ M', fn_mo_writeTwo [.inr (35, 0), .inl (nI v)] M = some M' ∧ zo_n 40 61 M M' ∧ rm_W M' (B ++ sp_two v) := by
  rw [eq_mo_writeTwo]
  simp only [nz_0, nz_1, nz_2, nz_3, nz_4, nz_5, nz_6, nz_7, nz_8, nz_9, nz_10, nz_11, nz_12, nz_13, nz_14, nz_15, nz_16, nz_17, nz_18, nz_19, nz_20, nz_21, nz_22, nz_23, nz_24, nz_25, nz_26, nz_27, nz_28, nz_29, nz_30, nz_31, nz_32, nz_33, nz_34, nz_35, nz_36, nz_37, nz_38, nz_39, nz_40, nz_41, nz_42, nz_43, nz_44, nz_45, nz_46, nz_47, nz_48, nz_49, nz_50, nz_51, nz_63, nz_64, nz_66, nz_127, nz_128, nz_246, nz_247, nz_248, nz_250, nz_251, nz_252, nz_254, nz_255, nz_256, nz_400, nz_2500]
  rw [by_hi hv, by_lo hv]
  obtain ⟨M1, a1, a2, a3⟩ := sm_write (x := v / 256 % 256) h (by omega)
  obtain ⟨M2, b1, b2, b3⟩ := sm_write (x := v % 256) a3 (by simp; omega)
  rw [a1, Option.bind_some, b1, Option.bind_some]
  refine ⟨M2, rfl, a2.tr b2, ?_⟩
  rw [List.append_assoc] at b3
  exact b3
theorem sm_writeType {M : zm_M} {t : Nat} {B : List Nat} (h : rm_W M B) (hl : B.length + (sp_tb t).length ≤ 2500) (ht : sp_wt t) : ∃ M', fn_mo_writeType [.inr (35, 0), .inl (nI t)] M = some M' ∧ zo_n 40 61 M M' ∧ rm_W M' (B ++ sp_tb t) := by
  have htl := sp_wt_lt ht
  have hk := sp_kd_lt t
  have hp := sp_pt_le t
  have htb := sp_tb_le t
  obtain ⟨M1, a1, a2, a3⟩ := sm_write (x := sp_kd t) h (by omega)
  rw [eq_mo_writeType, so_kind (by omega), Option.bind_some, a1, Option.bind_some, so_kind (by omega), Option.bind_some]
  simp only [nz_0, nz_1, nz_2, nz_3, nz_4, nz_5, nz_6, nz_7, nz_8, nz_9, nz_10, nz_11, nz_12, nz_13, nz_14, nz_15, nz_16, nz_17, nz_18, nz_19, nz_20, nz_21, nz_22, nz_23, nz_24, nz_25, nz_26, nz_27, nz_28, nz_29, nz_30, nz_31, nz_32, nz_33, nz_34, nz_35, nz_36, nz_37, nz_38, nz_39, nz_40, nz_41, nz_42, nz_43, nz_44, nz_45, nz_46, nz_47, nz_48, nz_49, nz_50, nz_51, nz_63, nz_64, nz_66, nz_127, nz_128, nz_246, nz_247, nz_248, nz_250, nz_251, nz_252, nz_254, nz_255, nz_256, nz_400, nz_2500]
  have hk8 : sp_kd t ≤ 8 := by
    unfold sp_wt at ht
    unfold sp_kd at ht ⊢
    omega
  by_cases e : sp_kd t ≤ 6
  · rw [if_neg (ni_nl e (by omega) (by omega))]
    refine ⟨M1, rfl, a2, ?_⟩
    unfold sp_tb
    rw [if_neg (by omega)]
    exact a3
  · have e7 : sp_kd t = 7 ∨ sp_kd t = 8 := by omega
    have hlen : (sp_tb t).length = 3 := by
      unfold sp_tb
      rw [if_pos e7]
      rfl
    rw [if_pos (ni_lt (by omega) (by omega) (by omega)), pt_nI (by omega)]
    obtain ⟨M2, b1, b2, b3⟩ := sm_writeTwo (v := sp_pt t) a3 (by simp; omega) (by omega)
    rw [b1, Option.bind_some]
    refine ⟨M2, rfl, a2.tr b2, ?_⟩
    rw [List.append_assoc] at b3
    unfold sp_tb
    rw [if_pos e7]
    exact b3
