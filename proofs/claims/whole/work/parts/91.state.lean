/-! THE CALLS: class and reference side by side -/
theorem i_cs (x : Int32) : x < nI 0 ∨ ∃ k : Nat, k < 2 ^ 31 ∧ x = nI k := by
  by_cases h : x < 0
  · exact Or.inl h
  · exact Or.inr (nI_of h)
theorem ng_i {x : Int32} (h : x < nI 0) : x.toInt < 0 := by
  rw [Int32.lt_iff_toInt_lt] at h
  exact h
theorem ng_lt {x : Int32} (h : x < nI 0) {k : Nat} (hk : k < 2 ^ 31) : x < nI k := by
  have := ng_i h
  rw [Int32.lt_iff_toInt_lt, nI_toInt hk]
  omega
theorem ng_nl {x : Int32} (h : x < nI 0) {k : Nat} (hk : k < 2 ^ 31) : ¬ nI k < x := by
  have := ng_i h
  rw [Int32.lt_iff_toInt_lt, nI_toInt hk]
  omega
theorem ng_ne {x : Int32} (h : x < nI 0) {k : Nat} (hk : k < 2 ^ 31) : ¬ x = nI k := by
  intro e
  rw [e] at h
  exact absurd h (ni_nl (by omega) hk (by omega))
def iw (P : sp_P) (B : List Nat) : Prop := wf_P P ∧ B.length ≤ 400 ∧ ∀ x ∈ B, x < 256
def ivc (P : sp_P) (B : List Nat) (M : zm_M) : Prop := rc_P P M ∧ rc_W M 0 B ∧ (M 18 0 8 = nI 0 ∨ ∃ b, fl_kn P M b) ∧ (M 29 0 9 = nI 0 ∨ re_kn P B M) ∧ fr_ok M
def ivm (P : sp_P) (B : List Nat) (M : zm_M) : Prop := rm_P P M ∧ rm_B M B
def iv (P : sp_P) (B : List Nat) (M : zm_M) : Prop := iw P B ∧ ivc P B M ∧ ivm P B M
def zo_H (M M' : zm_M) : Prop := ∀ s, 34 < s → M' s = M s
def cl (f g : zm_M → Option (Int32 × zm_M)) (M : zm_M) : Prop := ∃ v M1 M2, f M = some (v, M1) ∧ zo_H M M1 ∧ g M1 = some (v, M2) ∧ ∃ P B, iv P B M2
theorem zo_H.rf {M : zm_M} : zo_H M M := fun _ _ => rfl
theorem zo_H.tr {M M1 M2 : zm_M} (h : zo_H M M1) (h2 : zo_H M1 M2) : zo_H M M2 := fun s hs => (h2 s hs).trans (h s hs)
theorem zo_H.u {M : zm_M} {s i k : Nat} {x : Int32} (hs : s < 35) : zo_H M (zm_up M s i k x) := fun s' hs' => zu_s (by omega)
theorem zo_O.u {M : zm_M} {s i k : Nat} {x : Int32} (hs : 34 < s) : zo_O M (zm_up M s i k x) := fun s' hs' => zu_s (by omega)
theorem zo_O.rf' {M : zm_M} : zo_O M M := fun _ _ => rfl
theorem zo_O.tr' {M M1 M2 : zm_M} (h : zo_O M M1) (h2 : zo_O M1 M2) : zo_O M M2 := fun s hs => (h2 s hs).trans (h s hs)
theorem zo_H.m {P : sp_P} {B : List Nat} {M M' : zm_M} (h : zo_H M M') (hm : ivm P B M) : ivm P B M' := by
  obtain ⟨h1, h2⟩ := hm
  refine ⟨h1.kept (fun s h1 _ => h s (by omega)) (fun k _ => by rw [h 35 (by decide)]), ?_, ?_⟩
  · rw [h 35 (by decide)]
    exact h2.1
  · intro i hi
    rw [h 46 (by decide)]
    exact h2.2 i hi
theorem rc_F.of {M M' : zm_M} {f : Nat} {F : sp_F} (h : zo_O M M') (hF : rc_F M f F) : rc_F M' f F := hF.kept (by rw [h 23 (by decide)]) (by rw [h 24 (by decide)]) (by rw [h 25 (by decide)])
theorem fr_ok.of {M M' : zm_M} (h : zo_O M M') (hf : fr_ok M) : fr_ok M' := fun r hr => by
  obtain ⟨F, hF⟩ := hf r hr
  exact ⟨F, hF.of h⟩
theorem rc_R.of {M M' : zm_M} {P : sp_P} {R : List sp_W} (h : zo_O M M') (hR : rc_R P M R) : rc_R P M' R := by
  obtain ⟨h1, h2, h3, h4⟩ := hR
  refine ⟨h1, by rw [h 29 (by decide)]; exact h2, ?_, fun p hp => by rw [h 33 (by decide)]; exact h4 p hp⟩
  intro i hi
  obtain ⟨a, b, c, d⟩ := h3 i hi
  exact ⟨by rw [h 31 (by decide)]; exact a, by rw [h 32 (by decide)]; exact b, c.of h, d⟩
theorem re_kn.of {M M' : zm_M} {P : sp_P} {B : List Nat} (h : zo_O M M') (hk : re_kn P B M) : re_kn P B M' := by
  obtain ⟨h1, h2, h3⟩ := hk
  refine ⟨?_, ?_, fun R hR => (h3 R hR).of h⟩
  · rw [h 29 (by decide)]
    exact h1
  · rw [h 29 (by decide)]
    exact h2
theorem zo_O.c {P : sp_P} {B : List Nat} {M M' : zm_M} (h : zo_O M M') (hn : pg_n P ≤ 50) (hc : ivc P B M) : ivc P B M' := by
  obtain ⟨h1, h2, h3, h4, h5⟩ := hc
  refine ⟨h1.kept (fun s hs => h s (by omega)), h2.kept (by rw [h 15 (by decide)]) (by rw [h 16 (by decide)]), ?_, ?_, h5.of h⟩
  · rw [h 18 (by decide)]
    rcases h3 with h3 | ⟨b, h3⟩
    · exact Or.inl h3
    · exact Or.inr ⟨b, h3.kept (h 18 (by decide)) (h 20 (by decide)) (fun s p q1 q2 _ => by rw [h s (by omega)]) hn⟩
  · rw [h 29 (by decide)]
    rcases h4 with h4 | h4
    · exact Or.inl h4
    · exact Or.inr (h4.of h)
theorem cl_mk {f g : zm_M → Option (Int32 × zm_M)} {M M1 M2 : zm_M} {v : Int32} {P' : sp_P} {B' : List Nat} (h1 : f M = some (v, M1)) (h2 : zo_H M M1) (h3 : g M1 = some (v, M2)) (h4 : zo_O M1 M2) (h5 : iw P' B') (h6 : ivc P' B' M1) (h7 : ivm P' B' M2) : cl f g M := ⟨v, M1, M2, h1, h2, h3, P', B', h5, h4.c h5.1.n h6, h7⟩
theorem cl_same {f g : zm_M → Option (Int32 × zm_M)} {M : zm_M} {v : Int32} {P : sp_P} {B : List Nat} (hi : iv P B M) (h1 : f M = some (v, M)) (h3 : g M = some (v, M)) : cl f g M := ⟨v, M, M, h1, zo_H.rf, h3, P, B, hi⟩
/-- the findings are forgotten -/
theorem ivc_f {P P' : sp_P} {B B' : List Nat} {M M' : zm_M} (hc : ivc P B M) (h1 : rc_P P' M') (h2 : rc_W M' 0 B') (h18 : M' 18 0 8 = nI 0 ∨ ∃ b, fl_kn P' M' b) (h29 : M' 29 0 9 = nI 0) (hf : ∀ s, 22 < s → s < 26 → M' s = M s) : ivc P' B' M' := by
  refine ⟨h1, h2, h18, Or.inl h29, ?_⟩
  intro r hr
  obtain ⟨F, hF⟩ := hc.2.2.2.2 r hr
  exact ⟨F, hF.kept (by rw [hf 23 (by decide) (by decide)]) (by rw [hf 24 (by decide) (by decide)]) (by rw [hf 25 (by decide) (by decide)])⟩
/-- in a range that may be empty -/
theorem so_in1 {k n : Nat} (hk : k < 2 ^ 30) (hn : n < 2 ^ 30) (M : zm_M) : fn_mo_in [.inl (nI k), .inl (nI 0), .inl (nI n - nI 1)] M = some (bI (decide (k < n)), M) := by
  rw [eq_mo_in, if_neg (ni_nl (by omega) (by omega) (by omega))]
  have h : (nI n - nI 1).toInt = (n : Int) - 1 := pk_sub_toInt hn (by decide)
  by_cases e : k < n
  · rw [if_neg (by rw [Int32.lt_iff_toInt_lt, h, nI_toInt (by omega)]; omega), decide_eq_true e]
    rfl
  · rw [if_pos (by rw [Int32.lt_iff_toInt_lt, h, nI_toInt (by omega)]; omega), decide_eq_false e]
    rfl
theorem so_in1b {k n : Nat} (hk : k < 2 ^ 31) (hn : n < 2 ^ 30) (M : zm_M) : fn_mo_in [.inl (nI k), .inl (nI 0), .inl (nI n - nI 1)] M = some (bI (decide (k < n)), M) := by
  rw [eq_mo_in, if_neg (ni_nl (by omega) (by omega) (by omega))]
  have h : (nI n - nI 1).toInt = (n : Int) - 1 := pk_sub_toInt hn (by decide)
  by_cases e : k < n
  · rw [if_neg (by rw [Int32.lt_iff_toInt_lt, h, nI_toInt (by omega)]; omega), decide_eq_true e]
    rfl
  · rw [if_pos (by rw [Int32.lt_iff_toInt_lt, h, nI_toInt (by omega)]; omega), decide_eq_false e]
    rfl
theorem so_inn {x a b : Int32} (h : x < a) (M : zm_M) : fn_mo_in [.inl x, .inl a, .inl b] M = some (nI 0, M) := by
  rw [eq_mo_in, if_pos h]
  rfl
theorem rm_P.kept7 {P : sp_P} {M M' : zm_M} (h : rm_P P M) (hk : ∀ s, 35 < s → s < 46 → M' s = M s) (hk2 : ∀ k, k < 9 → k ≠ 7 → M' 35 0 k = M 35 0 k) : rm_P P M' := by
  unfold rm_P rm_C at h ⊢
  rw [hk 36 (by decide) (by decide), hk 37 (by decide) (by decide), hk 38 (by decide) (by decide), hk 39 (by decide) (by decide), hk 40 (by decide) (by decide), hk 41 (by decide) (by decide), hk 42 (by decide) (by decide), hk 43 (by decide) (by decide), hk 44 (by decide) (by decide), hk 45 (by decide) (by decide), hk2 2 (by decide) (by decide), hk2 3 (by decide) (by decide), hk2 4 (by decide) (by decide), hk2 5 (by decide) (by decide), hk2 6 (by decide) (by decide), hk2 8 (by decide) (by decide)]
  exact h
/-! map, patch, cut -/
theorem cl_map {P : sp_P} {B : List Nat} {M : zm_M} (hi : iv P B M) (x : Int32) : cl (fn_mf_map [.inr (0, 0), .inl x]) (fn_mo_map [.inr (35, 0), .inl x]) M := by
  obtain ⟨⟨hw, hl, hb⟩, hc, hm⟩ := id hi
  have c1 := hc.2.1.1
  have m1 := hm.2.1
  by_cases e1 : x = -nI 1
  · refine cl_same hi (v := nI B.length) ?_ ?_
    · rw [eq_mf_map, nz_1, if_pos e1, c1]
    · rw [eq_mo_map, nz_1, if_pos e1, m1]
  rcases i_cs x with h | ⟨k, hk, rfl⟩
  · refine cl_same hi (v := -nI 2) ?_ ?_
    · rw [eq_mf_map]
      simp only [nz_0, nz_1, nz_2, nz_3, nz_4, nz_5, nz_6, nz_7, nz_8, nz_9, nz_10, nz_11, nz_12, nz_13, nz_14, nz_15, nz_16, nz_17, nz_18, nz_19, nz_20, nz_21, nz_22, nz_23, nz_24, nz_25, nz_26, nz_27, nz_28, nz_29, nz_30, nz_31, nz_32, nz_33, nz_34, nz_35, nz_36, nz_37, nz_38, nz_39, nz_40, nz_41, nz_42, nz_43, nz_44, nz_45, nz_46, nz_47, nz_48, nz_49, nz_50, nz_51, nz_63, nz_64, nz_66, nz_127, nz_128, nz_246, nz_247, nz_248, nz_250, nz_251, nz_252, nz_254, nz_255, nz_256, nz_400, nz_2500]
      rw [if_neg e1, if_pos h]
    · rw [eq_mo_map]
      simp only [nz_0, nz_1, nz_2, nz_3, nz_4, nz_5, nz_6, nz_7, nz_8, nz_9, nz_10, nz_11, nz_12, nz_13, nz_14, nz_15, nz_16, nz_17, nz_18, nz_19, nz_20, nz_21, nz_22, nz_23, nz_24, nz_25, nz_26, nz_27, nz_28, nz_29, nz_30, nz_31, nz_32, nz_33, nz_34, nz_35, nz_36, nz_37, nz_38, nz_39, nz_40, nz_41, nz_42, nz_43, nz_44, nz_45, nz_46, nz_47, nz_48, nz_49, nz_50, nz_51, nz_63, nz_64, nz_66, nz_127, nz_128, nz_246, nz_247, nz_248, nz_250, nz_251, nz_252, nz_254, nz_255, nz_256, nz_400, nz_2500]
      rw [if_neg e1, so_inn h, Option.bind_some, if_pos rfl]
  by_cases e : k < B.length
  · refine cl_same hi (v := nI (B.getD k 0)) ?_ ?_
    · rw [eq_mf_map]
      simp only [nz_0, nz_1, nz_2, nz_3, nz_4, nz_5, nz_6, nz_7, nz_8, nz_9, nz_10, nz_11, nz_12, nz_13, nz_14, nz_15, nz_16, nz_17, nz_18, nz_19, nz_20, nz_21, nz_22, nz_23, nz_24, nz_25, nz_26, nz_27, nz_28, nz_29, nz_30, nz_31, nz_32, nz_33, nz_34, nz_35, nz_36, nz_37, nz_38, nz_39, nz_40, nz_41, nz_42, nz_43, nz_44, nz_45, nz_46, nz_47, nz_48, nz_49, nz_50, nz_51, nz_63, nz_64, nz_66, nz_127, nz_128, nz_246, nz_247, nz_248, nz_250, nz_251, nz_252, nz_254, nz_255, nz_256, nz_400, nz_2500]
      rw [if_neg e1, if_neg (ni_nl (by omega) hk (by omega)), c1, if_pos (ni_lt e hk (by omega)), nI_clamp hk, if_neg (ni_in (show k < 400 by omega) hk), hc.2.1.2 k e (by omega)]
    · rw [eq_mo_map]
      simp only [nz_0, nz_1, nz_2, nz_3, nz_4, nz_5, nz_6, nz_7, nz_8, nz_9, nz_10, nz_11, nz_12, nz_13, nz_14, nz_15, nz_16, nz_17, nz_18, nz_19, nz_20, nz_21, nz_22, nz_23, nz_24, nz_25, nz_26, nz_27, nz_28, nz_29, nz_30, nz_31, nz_32, nz_33, nz_34, nz_35, nz_36, nz_37, nz_38, nz_39, nz_40, nz_41, nz_42, nz_43, nz_44, nz_45, nz_46, nz_47, nz_48, nz_49, nz_50, nz_51, nz_63, nz_64, nz_66, nz_127, nz_128, nz_246, nz_247, nz_248, nz_250, nz_251, nz_252, nz_254, nz_255, nz_256, nz_400, nz_2500]
      rw [if_neg e1, m1, so_in1b hk (by omega), Option.bind_some]
      simp only [bI_0]
      rw [if_neg (by rw [decide_eq_true e]; decide), nI_clamp hk, if_neg (ni_in (show k < 400 by omega) hk), hm.2.2 k e]
  · refine cl_same hi (v := -nI 2) ?_ ?_
    · rw [eq_mf_map]
      simp only [nz_0, nz_1, nz_2, nz_3, nz_4, nz_5, nz_6, nz_7, nz_8, nz_9, nz_10, nz_11, nz_12, nz_13, nz_14, nz_15, nz_16, nz_17, nz_18, nz_19, nz_20, nz_21, nz_22, nz_23, nz_24, nz_25, nz_26, nz_27, nz_28, nz_29, nz_30, nz_31, nz_32, nz_33, nz_34, nz_35, nz_36, nz_37, nz_38, nz_39, nz_40, nz_41, nz_42, nz_43, nz_44, nz_45, nz_46, nz_47, nz_48, nz_49, nz_50, nz_51, nz_63, nz_64, nz_66, nz_127, nz_128, nz_246, nz_247, nz_248, nz_250, nz_251, nz_252, nz_254, nz_255, nz_256, nz_400, nz_2500]
      rw [if_neg e1, if_neg (ni_nl (by omega) hk (by omega)), c1, if_neg (ni_nl (by omega) hk (by omega))]
    · rw [eq_mo_map]
      simp only [nz_0, nz_1, nz_2, nz_3, nz_4, nz_5, nz_6, nz_7, nz_8, nz_9, nz_10, nz_11, nz_12, nz_13, nz_14, nz_15, nz_16, nz_17, nz_18, nz_19, nz_20, nz_21, nz_22, nz_23, nz_24, nz_25, nz_26, nz_27, nz_28, nz_29, nz_30, nz_31, nz_32, nz_33, nz_34, nz_35, nz_36, nz_37, nz_38, nz_39, nz_40, nz_41, nz_42, nz_43, nz_44, nz_45, nz_46, nz_47, nz_48, nz_49, nz_50, nz_51, nz_63, nz_64, nz_66, nz_127, nz_128, nz_246, nz_247, nz_248, nz_250, nz_251, nz_252, nz_254, nz_255, nz_256, nz_400, nz_2500]
      rw [if_neg e1, m1, so_in1b hk (by omega), Option.bind_some]
      simp only [bI_0]
      rw [if_pos (decide_eq_false e)]
theorem cl_cut {P : sp_P} {B : List Nat} {M : zm_M} (hi : iv P B M) (x : Int32) : cl (fn_mf_cut [.inr (0, 0), .inl x]) (fn_mo_cut [.inr (35, 0), .inl x]) M := by
  obtain ⟨⟨hw, hl, hb⟩, hc, hm⟩ := id hi
  have c1 := hc.2.1.1
  have m1 := hm.2.1
  rcases i_cs x with h | ⟨k, hk, rfl⟩
  · refine cl_same hi (v := -nI 1) ?_ ?_
    · rw [eq_mf_cut]
      simp only [nz_0, nz_1, nz_2, nz_3, nz_4, nz_5, nz_6, nz_7, nz_8, nz_9, nz_10, nz_11, nz_12, nz_13, nz_14, nz_15, nz_16, nz_17, nz_18, nz_19, nz_20, nz_21, nz_22, nz_23, nz_24, nz_25, nz_26, nz_27, nz_28, nz_29, nz_30, nz_31, nz_32, nz_33, nz_34, nz_35, nz_36, nz_37, nz_38, nz_39, nz_40, nz_41, nz_42, nz_43, nz_44, nz_45, nz_46, nz_47, nz_48, nz_49, nz_50, nz_51, nz_63, nz_64, nz_66, nz_127, nz_128, nz_246, nz_247, nz_248, nz_250, nz_251, nz_252, nz_254, nz_255, nz_256, nz_400, nz_2500]
      rw [if_pos h]
    · rw [eq_mo_cut]
      simp only [nz_0, nz_1, nz_2, nz_3, nz_4, nz_5, nz_6, nz_7, nz_8, nz_9, nz_10, nz_11, nz_12, nz_13, nz_14, nz_15, nz_16, nz_17, nz_18, nz_19, nz_20, nz_21, nz_22, nz_23, nz_24, nz_25, nz_26, nz_27, nz_28, nz_29, nz_30, nz_31, nz_32, nz_33, nz_34, nz_35, nz_36, nz_37, nz_38, nz_39, nz_40, nz_41, nz_42, nz_43, nz_44, nz_45, nz_46, nz_47, nz_48, nz_49, nz_50, nz_51, nz_63, nz_64, nz_66, nz_127, nz_128, nz_246, nz_247, nz_248, nz_250, nz_251, nz_252, nz_254, nz_255, nz_256, nz_400, nz_2500]
      rw [so_inn h, Option.bind_some, if_pos rfl]
  by_cases e : k ≤ B.length
  · have hlen : (B.take k).length = k := by rw [List.length_take]; omega
    have hgd : ∀ i, i < k → (B.take k).getD i 0 = B.getD i 0 := by
      intro i hi
      rw [List.getD_eq_getElem?_getD, List.getD_eq_getElem?_getD, List.getElem?_take, if_pos hi]
    have hcl : fn_mf_cut [.inr (0, 0), .inl (nI k)] M = some (nI (B.length - k), zm_up (zm_up M 15 0 1 (nI k)) 29 0 9 (nI 0)) := by
      rw [eq_mf_cut]
      simp only [nz_0, nz_1, nz_2, nz_3, nz_4, nz_5, nz_6, nz_7, nz_8, nz_9, nz_10, nz_11, nz_12, nz_13, nz_14, nz_15, nz_16, nz_17, nz_18, nz_19, nz_20, nz_21, nz_22, nz_23, nz_24, nz_25, nz_26, nz_27, nz_28, nz_29, nz_30, nz_31, nz_32, nz_33, nz_34, nz_35, nz_36, nz_37, nz_38, nz_39, nz_40, nz_41, nz_42, nz_43, nz_44, nz_45, nz_46, nz_47, nz_48, nz_49, nz_50, nz_51, nz_63, nz_64, nz_66, nz_127, nz_128, nz_246, nz_247, nz_248, nz_250, nz_251, nz_252, nz_254, nz_255, nz_256, nz_400, nz_2500]
      rw [if_neg (ni_nl (by omega) hk (by omega)), c1, if_neg (ni_nl (by omega) (by omega) (by omega)), pk_sub e]
    have z1 : zo_H M (zm_up (zm_up M 15 0 1 (nI k)) 29 0 9 (nI 0)) := (zo_H.u (by decide)).tr (zo_H.u (by decide))
    have hm1 := z1.m hm
    refine cl_mk (P' := P) (B' := B.take k) (M2 := zm_up (zm_up (zm_up M 15 0 1 (nI k)) 29 0 9 (nI 0)) 35 0 7 (nI k)) hcl z1 ?_ (zo_O.u (by decide)) ⟨hw, by omega, fun x hx => hb x (List.mem_of_mem_take hx)⟩ ?_ ?_
    · rw [eq_mo_cut]
      simp only [nz_0, nz_1, nz_2, nz_3, nz_4, nz_5, nz_6, nz_7, nz_8, nz_9, nz_10, nz_11, nz_12, nz_13, nz_14, nz_15, nz_16, nz_17, nz_18, nz_19, nz_20, nz_21, nz_22, nz_23, nz_24, nz_25, nz_26, nz_27, nz_28, nz_29, nz_30, nz_31, nz_32, nz_33, nz_34, nz_35, nz_36, nz_37, nz_38, nz_39, nz_40, nz_41, nz_42, nz_43, nz_44, nz_45, nz_46, nz_47, nz_48, nz_49, nz_50, nz_51, nz_63, nz_64, nz_66, nz_127, nz_128, nz_246, nz_247, nz_248, nz_250, nz_251, nz_252, nz_254, nz_255, nz_256, nz_400, nz_2500]
      rw [hm1.2.1, so_in hk (by omega) (by omega), Option.bind_some]
      simp only [bI_0]
      rw [if_neg (by rw [decide_eq_true (Nat.zero_le k), decide_eq_true e]; decide), hm1.2.1, pk_sub e]
    · refine ivc_f hc (hc.1.kept fun s hs => ?_) ⟨?_, ?_⟩ ?_ zu_e (fun s h1 h2 => ?_)
      · by_cases e15 : s = 15
        · omega
        · rw [zu_s (by omega), zu_s (by omega)]
      · rw [zu_s (by decide), zu_e, hlen]
      · intro i hi h4
        rw [zu_s (by decide), zu_s (by decide), hgd i (by omega)]
        exact hc.2.1.2 i (by omega) h4
      · rw [zu_s (by decide), zu_s (by decide)]
        rcases hc.2.2.1 with q | ⟨b, q⟩
        · exact Or.inl q
        · exact Or.inr ⟨b, q.kept (by rw [zu_s (by decide), zu_s (by decide)]) (by rw [zu_s (by decide), zu_s (by decide)]) (fun s p q1 q2 _ => by rw [zu_s (by omega), zu_s (by omega)]) hw.n⟩
      · rw [zu_s (by omega), zu_s (by omega)]
    · refine ⟨hm1.1.kept7 (fun s q1 q2 => zu_s (by omega)) (fun j hj e7 => zu_k e7), ?_, ?_⟩
      · rw [zu_e, hlen]
      · intro i hi
        rw [zu_s (by decide), hgd i (by omega)]
        exact hm1.2.2 i (by omega)
  · refine cl_same hi (v := -nI 1) ?_ ?_
    · rw [eq_mf_cut]
      simp only [nz_0, nz_1, nz_2, nz_3, nz_4, nz_5, nz_6, nz_7, nz_8, nz_9, nz_10, nz_11, nz_12, nz_13, nz_14, nz_15, nz_16, nz_17, nz_18, nz_19, nz_20, nz_21, nz_22, nz_23, nz_24, nz_25, nz_26, nz_27, nz_28, nz_29, nz_30, nz_31, nz_32, nz_33, nz_34, nz_35, nz_36, nz_37, nz_38, nz_39, nz_40, nz_41, nz_42, nz_43, nz_44, nz_45, nz_46, nz_47, nz_48, nz_49, nz_50, nz_51, nz_63, nz_64, nz_66, nz_127, nz_128, nz_246, nz_247, nz_248, nz_250, nz_251, nz_252, nz_254, nz_255, nz_256, nz_400, nz_2500]
      rw [if_neg (ni_nl (by omega) hk (by omega)), c1, if_pos (ni_lt (by omega) (by omega) (by omega))]
    · rw [eq_mo_cut]
      simp only [nz_0, nz_1, nz_2, nz_3, nz_4, nz_5, nz_6, nz_7, nz_8, nz_9, nz_10, nz_11, nz_12, nz_13, nz_14, nz_15, nz_16, nz_17, nz_18, nz_19, nz_20, nz_21, nz_22, nz_23, nz_24, nz_25, nz_26, nz_27, nz_28, nz_29, nz_30, nz_31, nz_32, nz_33, nz_34, nz_35, nz_36, nz_37, nz_38, nz_39, nz_40, nz_41, nz_42, nz_43, nz_44, nz_45, nz_46, nz_47, nz_48, nz_49, nz_50, nz_51, nz_63, nz_64, nz_66, nz_127, nz_128, nz_246, nz_247, nz_248, nz_250, nz_251, nz_252, nz_254, nz_255, nz_256, nz_400, nz_2500]
      rw [m1, so_in hk (by omega) (by omega), Option.bind_some]
      simp only [bI_0]
      rw [if_pos (by rw [decide_eq_false e, Bool.and_false])]
theorem zm_mx_e {a b : Nat} (ha : a < 2 ^ 31) (hb : b < 2 ^ 31) (M : zm_M) : zm_mx [.inl (nI a), .inl (nI b)] M = some (nI (max a b), M) := by
  show some (if nI a < nI b then nI b else nI a, M) = _
  by_cases e : a < b
  · rw [if_pos (ni_lt e ha hb), Nat.max_eq_right (by omega)]
  · rw [if_neg (ni_nl (by omega) ha hb), Nat.max_eq_left (by omega)]
/-- a byte is set, or put behind -/
def sp_pat (B : List Nat) (k b : Nat) : List Nat := if k < B.length then B.set k b else B ++ [b]
theorem pat_len {B : List Nat} {k b : Nat} (hk : k ≤ B.length) : (sp_pat B k b).length = max B.length (k + 1) := by
  unfold sp_pat
  split
  · rw [List.length_set]
    omega
  · rw [List.length_append, List.length_singleton]
    omega
theorem pat_gd {B : List Nat} {k b i : Nat} (hk : k ≤ B.length) : (sp_pat B k b).getD i 0 = if i = k then b else B.getD i 0 := by
  unfold sp_pat
  split
  · next e =>
    rw [List.getD_eq_getElem?_getD, List.getElem?_set]
    by_cases ei : i = k
    · rw [if_pos ei.symm, if_pos ei, if_pos e]
      rfl
    · rw [if_neg (fun q => ei q.symm), if_neg ei, List.getD_eq_getElem?_getD]
  · next e =>
    have : k = B.length := by omega
    subst this
    exact gd_sn
theorem pat_mem {B : List Nat} {k b : Nat} (hb : ∀ x ∈ B, x < 256) (h : b < 256) : ∀ x ∈ sp_pat B k b, x < 256 := by
  unfold sp_pat
  intro x hx
  split at hx
  · rcases List.mem_or_eq_of_mem_set hx with q | q
    · exact hb x q
    · omega
  · rcases List.mem_append.mp hx with q | q
    · exact hb x q
    · rw [List.mem_singleton] at q
      omega
theorem cl_patch {P : sp_P} {B : List Nat} {M : zm_M} (hi : iv P B M) (x y : Int32) : cl (fn_mf_patch [.inr (0, 0), .inl x, .inl y]) (fn_mo_patch [.inr (35, 0), .inl x, .inl y]) M := by
  obtain ⟨⟨hw, hl, hb⟩, hc, hm⟩ := id hi
  have c1 := hc.2.1.1
  have m1 := hm.2.1
  rcases i_cs x with h | ⟨k, hk, rfl⟩
  · refine cl_same hi (v := nI 0) ?_ ?_
    · rw [eq_mf_patch]
      simp only [nz_0, nz_1, nz_2, nz_3, nz_4, nz_5, nz_6, nz_7, nz_8, nz_9, nz_10, nz_11, nz_12, nz_13, nz_14, nz_15, nz_16, nz_17, nz_18, nz_19, nz_20, nz_21, nz_22, nz_23, nz_24, nz_25, nz_26, nz_27, nz_28, nz_29, nz_30, nz_31, nz_32, nz_33, nz_34, nz_35, nz_36, nz_37, nz_38, nz_39, nz_40, nz_41, nz_42, nz_43, nz_44, nz_45, nz_46, nz_47, nz_48, nz_49, nz_50, nz_51, nz_63, nz_64, nz_66, nz_127, nz_128, nz_246, nz_247, nz_248, nz_250, nz_251, nz_252, nz_254, nz_255, nz_256, nz_400, nz_2500]
      rw [if_pos h]
    · rw [eq_mo_patch]
      simp only [nz_0, nz_1, nz_2, nz_3, nz_4, nz_5, nz_6, nz_7, nz_8, nz_9, nz_10, nz_11, nz_12, nz_13, nz_14, nz_15, nz_16, nz_17, nz_18, nz_19, nz_20, nz_21, nz_22, nz_23, nz_24, nz_25, nz_26, nz_27, nz_28, nz_29, nz_30, nz_31, nz_32, nz_33, nz_34, nz_35, nz_36, nz_37, nz_38, nz_39, nz_40, nz_41, nz_42, nz_43, nz_44, nz_45, nz_46, nz_47, nz_48, nz_49, nz_50, nz_51, nz_63, nz_64, nz_66, nz_127, nz_128, nz_246, nz_247, nz_248, nz_250, nz_251, nz_252, nz_254, nz_255, nz_256, nz_400, nz_2500]
      rw [so_inn h, Option.bind_some, if_pos rfl]
  by_cases e : k ≤ B.length
  rotate_left
  · refine cl_same hi (v := nI 0) ?_ ?_
    · rw [eq_mf_patch]
      simp only [nz_0, nz_1, nz_2, nz_3, nz_4, nz_5, nz_6, nz_7, nz_8, nz_9, nz_10, nz_11, nz_12, nz_13, nz_14, nz_15, nz_16, nz_17, nz_18, nz_19, nz_20, nz_21, nz_22, nz_23, nz_24, nz_25, nz_26, nz_27, nz_28, nz_29, nz_30, nz_31, nz_32, nz_33, nz_34, nz_35, nz_36, nz_37, nz_38, nz_39, nz_40, nz_41, nz_42, nz_43, nz_44, nz_45, nz_46, nz_47, nz_48, nz_49, nz_50, nz_51, nz_63, nz_64, nz_66, nz_127, nz_128, nz_246, nz_247, nz_248, nz_250, nz_251, nz_252, nz_254, nz_255, nz_256, nz_400, nz_2500]
      rw [if_neg (ni_nl (by omega) hk (by omega)), c1, if_pos (ni_lt (by omega) (by omega) (by omega))]
    · rw [eq_mo_patch]
      simp only [nz_0, nz_1, nz_2, nz_3, nz_4, nz_5, nz_6, nz_7, nz_8, nz_9, nz_10, nz_11, nz_12, nz_13, nz_14, nz_15, nz_16, nz_17, nz_18, nz_19, nz_20, nz_21, nz_22, nz_23, nz_24, nz_25, nz_26, nz_27, nz_28, nz_29, nz_30, nz_31, nz_32, nz_33, nz_34, nz_35, nz_36, nz_37, nz_38, nz_39, nz_40, nz_41, nz_42, nz_43, nz_44, nz_45, nz_46, nz_47, nz_48, nz_49, nz_50, nz_51, nz_63, nz_64, nz_66, nz_127, nz_128, nz_246, nz_247, nz_248, nz_250, nz_251, nz_252, nz_254, nz_255, nz_256, nz_400, nz_2500]
      rw [m1, so_in hk (by omega) (by omega), Option.bind_some]
      simp only [bI_0]
      rw [if_pos (by rw [decide_eq_false e, Bool.and_false])]
  have r1 : (decide (0 ≤ k) && decide (k ≤ B.length)) = true := by rw [decide_eq_true (Nat.zero_le k), decide_eq_true e]; rfl
  -- the byte is none
  have bad : (y < nI 0 ∨ nI 255 < y) → cl (fn_mf_patch [.inr (0, 0), .inl (nI k), .inl y]) (fn_mo_patch [.inr (35, 0), .inl (nI k), .inl y]) M := by
    intro hy
    refine cl_same hi (v := nI 0) ?_ ?_
    · rw [eq_mf_patch]
      simp only [nz_0, nz_1, nz_2, nz_3, nz_4, nz_5, nz_6, nz_7, nz_8, nz_9, nz_10, nz_11, nz_12, nz_13, nz_14, nz_15, nz_16, nz_17, nz_18, nz_19, nz_20, nz_21, nz_22, nz_23, nz_24, nz_25, nz_26, nz_27, nz_28, nz_29, nz_30, nz_31, nz_32, nz_33, nz_34, nz_35, nz_36, nz_37, nz_38, nz_39, nz_40, nz_41, nz_42, nz_43, nz_44, nz_45, nz_46, nz_47, nz_48, nz_49, nz_50, nz_51, nz_63, nz_64, nz_66, nz_127, nz_128, nz_246, nz_247, nz_248, nz_250, nz_251, nz_252, nz_254, nz_255, nz_256, nz_400, nz_2500]
      rw [if_neg (ni_nl (by omega) hk (by omega)), c1, if_neg (ni_nl e (by omega) hk)]
      by_cases h4 : k < 400
      · rw [if_pos (ni_lt h4 hk (by omega))]
        by_cases y0 : y < nI 0
        · rw [if_pos y0]
        · rw [if_neg y0, if_pos (hy.resolve_left y0)]
      · rw [if_neg (ni_nl (by omega) hk (by omega))]
    · rw [eq_mo_patch]
      simp only [nz_0, nz_1, nz_2, nz_3, nz_4, nz_5, nz_6, nz_7, nz_8, nz_9, nz_10, nz_11, nz_12, nz_13, nz_14, nz_15, nz_16, nz_17, nz_18, nz_19, nz_20, nz_21, nz_22, nz_23, nz_24, nz_25, nz_26, nz_27, nz_28, nz_29, nz_30, nz_31, nz_32, nz_33, nz_34, nz_35, nz_36, nz_37, nz_38, nz_39, nz_40, nz_41, nz_42, nz_43, nz_44, nz_45, nz_46, nz_47, nz_48, nz_49, nz_50, nz_51, nz_63, nz_64, nz_66, nz_127, nz_128, nz_246, nz_247, nz_248, nz_250, nz_251, nz_252, nz_254, nz_255, nz_256, nz_400, nz_2500]
      rw [m1, so_in hk (by omega) (by omega), Option.bind_some]
      simp only [bI_0]
      rw [if_neg (by rw [r1]; decide), eq_mo_in]
      by_cases y0 : y < nI 0
      · rw [if_pos y0, Option.bind_some]
        rfl
      · rw [if_neg y0, if_pos (hy.resolve_left y0), Option.bind_some]
        rfl
  rcases i_cs y with h | ⟨b, hbk, rfl⟩
  · exact bad (Or.inl h)
  by_cases e2 : b < 256
  rotate_left
  · exact bad (Or.inr (ni_lt (by omega) (by omega) hbk))
  have r2 : (decide (0 ≤ b) && decide (b ≤ 255)) = true := by rw [decide_eq_true (Nat.zero_le b), decide_eq_true (by omega)]; rfl
  by_cases h4 : k = 400
  · refine cl_same hi (v := nI 0) ?_ ?_
    · rw [eq_mf_patch]
      simp only [nz_0, nz_1, nz_2, nz_3, nz_4, nz_5, nz_6, nz_7, nz_8, nz_9, nz_10, nz_11, nz_12, nz_13, nz_14, nz_15, nz_16, nz_17, nz_18, nz_19, nz_20, nz_21, nz_22, nz_23, nz_24, nz_25, nz_26, nz_27, nz_28, nz_29, nz_30, nz_31, nz_32, nz_33, nz_34, nz_35, nz_36, nz_37, nz_38, nz_39, nz_40, nz_41, nz_42, nz_43, nz_44, nz_45, nz_46, nz_47, nz_48, nz_49, nz_50, nz_51, nz_63, nz_64, nz_66, nz_127, nz_128, nz_246, nz_247, nz_248, nz_250, nz_251, nz_252, nz_254, nz_255, nz_256, nz_400, nz_2500]
      rw [if_neg (ni_nl (by omega) hk (by omega)), c1, if_neg (ni_nl e (by omega) hk), if_neg (ni_nl (by omega) hk (by omega))]
    · rw [eq_mo_patch]
      simp only [nz_0, nz_1, nz_2, nz_3, nz_4, nz_5, nz_6, nz_7, nz_8, nz_9, nz_10, nz_11, nz_12, nz_13, nz_14, nz_15, nz_16, nz_17, nz_18, nz_19, nz_20, nz_21, nz_22, nz_23, nz_24, nz_25, nz_26, nz_27, nz_28, nz_29, nz_30, nz_31, nz_32, nz_33, nz_34, nz_35, nz_36, nz_37, nz_38, nz_39, nz_40, nz_41, nz_42, nz_43, nz_44, nz_45, nz_46, nz_47, nz_48, nz_49, nz_50, nz_51, nz_63, nz_64, nz_66, nz_127, nz_128, nz_246, nz_247, nz_248, nz_250, nz_251, nz_252, nz_254, nz_255, nz_256, nz_400, nz_2500]
      rw [m1, so_in hk (by omega) (by omega), Option.bind_some]
      simp only [bI_0]
      rw [if_neg (by rw [r1]; decide), so_in hbk (by omega) (by omega), Option.bind_some]
      simp only [bI_0]
      rw [if_neg (by rw [r2]; decide), if_pos (by rw [h4])]
  have k4 : k < 400 := by omega
  have hcl : fn_mf_patch [.inr (0, 0), .inl (nI k), .inl (nI b)] M = some (nI 1, zm_up (zm_up (zm_up M 16 0 k (nI b)) 15 0 1 (nI (max B.length (k + 1)))) 29 0 9 (nI 0)) := by
    rw [eq_mf_patch]
    simp only [nz_0, nz_1, nz_2, nz_3, nz_4, nz_5, nz_6, nz_7, nz_8, nz_9, nz_10, nz_11, nz_12, nz_13, nz_14, nz_15, nz_16, nz_17, nz_18, nz_19, nz_20, nz_21, nz_22, nz_23, nz_24, nz_25, nz_26, nz_27, nz_28, nz_29, nz_30, nz_31, nz_32, nz_33, nz_34, nz_35, nz_36, nz_37, nz_38, nz_39, nz_40, nz_41, nz_42, nz_43, nz_44, nz_45, nz_46, nz_47, nz_48, nz_49, nz_50, nz_51, nz_63, nz_64, nz_66, nz_127, nz_128, nz_246, nz_247, nz_248, nz_250, nz_251, nz_252, nz_254, nz_255, nz_256, nz_400, nz_2500]
    rw [if_neg (ni_nl (by omega) hk (by omega)), c1, if_neg (ni_nl e (by omega) hk), if_pos (ni_lt k4 hk (by omega)), if_neg (ni_nl (by omega) hbk (by omega)), if_neg (ni_nl (by omega) (by omega) (by omega)), nI_clamp hk, if_neg (ni_in k4 hk), nI_add]
    rw [zm_mx_e (by omega) (by omega), Option.bind_some]
  have z1 : zo_H M (zm_up (zm_up (zm_up M 16 0 k (nI b)) 15 0 1 (nI (max B.length (k + 1)))) 29 0 9 (nI 0)) := ((zo_H.u (by decide)).tr (zo_H.u (by decide))).tr (zo_H.u (by decide))
  have hm1 := z1.m hm
  have kp : ∀ s, s ≠ 15 → s ≠ 16 → s ≠ 29 → zm_up (zm_up (zm_up M 16 0 k (nI b)) 15 0 1 (nI (max B.length (k + 1)))) 29 0 9 (nI 0) s = M s := by
    intro s a b c
    rw [zu_s c, zu_s a, zu_s b]
  have hC : ivc P (sp_pat B k b) (zm_up (zm_up (zm_up M 16 0 k (nI b)) 15 0 1 (nI (max B.length (k + 1)))) 29 0 9 (nI 0)) := by
    refine ivc_f hc (hc.1.kept fun s hs => kp s (by omega) (by omega) (by omega)) ⟨?_, ?_⟩ ?_ zu_e (fun s h1 h2 => kp s (by omega) (by omega) (by omega))
    · rw [zu_s (by decide), zu_e, pat_len e]
    · intro i hi h4
      rw [zu_s (by decide), zu_s (by decide), pat_gd e]
      by_cases ei : i = k
      · rw [if_pos ei, ei, zu_e]
      · rw [if_neg ei, zu_k ei]
        rw [pat_len e] at hi
        exact hc.2.1.2 i (by omega) h4
    · rw [kp 18 (by decide) (by decide) (by decide)]
      rcases hc.2.2.1 with q | ⟨b, q⟩
      · exact Or.inl q
      · exact Or.inr ⟨b, q.kept (kp 18 (by decide) (by decide) (by decide)) (kp 20 (by decide) (by decide) (by decide)) (fun s p q1 q2 _ => by rw [kp s (by omega) (by omega) (by omega)]) hw.n⟩
  generalize zm_up (zm_up (zm_up M 16 0 k (nI b)) 15 0 1 (nI (max B.length (k + 1)))) 29 0 9 (nI 0) = M1 at hcl z1 hm1 hC
  have hW : iw P (sp_pat B k b) := ⟨hw, by rw [pat_len e]; omega, pat_mem hb e2⟩
  by_cases e7 : k = B.length
  · refine cl_mk (P' := P) (B' := sp_pat B k b) (M2 := zm_up (zm_up M1 46 0 k (nI b)) 35 0 7 (nI (B.length + 1))) hcl z1 ?_ ((zo_O.u (by decide)).tr' (zo_O.u (by decide))) hW hC ?_
    · rw [eq_mo_patch]
      simp only [nz_0, nz_1, nz_2, nz_3, nz_4, nz_5, nz_6, nz_7, nz_8, nz_9, nz_10, nz_11, nz_12, nz_13, nz_14, nz_15, nz_16, nz_17, nz_18, nz_19, nz_20, nz_21, nz_22, nz_23, nz_24, nz_25, nz_26, nz_27, nz_28, nz_29, nz_30, nz_31, nz_32, nz_33, nz_34, nz_35, nz_36, nz_37, nz_38, nz_39, nz_40, nz_41, nz_42, nz_43, nz_44, nz_45, nz_46, nz_47, nz_48, nz_49, nz_50, nz_51, nz_63, nz_64, nz_66, nz_127, nz_128, nz_246, nz_247, nz_248, nz_250, nz_251, nz_252, nz_254, nz_255, nz_256, nz_400, nz_2500]
      rw [hm1.2.1, so_in hk (by omega) (by omega), Option.bind_some]
      simp only [bI_0]
      rw [if_neg (by rw [r1]; decide), so_in hbk (by omega) (by omega), Option.bind_some]
      simp only [bI_0]
      rw [if_neg (by rw [r2]; decide), if_neg (ni_ne h4 hk (by omega)), nI_clamp hk, if_neg (ni_in k4 hk), hm1.2.1, if_pos (by rw [e7]), nI_add]
    · refine ⟨hm1.1.kept7 (fun s q1 q2 => by rw [zu_s (by omega), zu_s (by omega)]) (fun j hj e7 => by rw [zu_k e7, zu_s (by decide)]), ?_, ?_⟩
      · rw [zu_e, pat_len e, show max B.length (k + 1) = B.length + 1 by omega]
      · intro i hi
        rw [pat_len e] at hi
        rw [zu_s (by decide), pat_gd e]
        by_cases ei : i = k
        · rw [if_pos ei, ei, zu_e]
        · rw [if_neg ei, zu_k ei]
          exact hm1.2.2 i (by omega)
  · refine cl_mk (P' := P) (B' := sp_pat B k b) (M2 := zm_up M1 46 0 k (nI b)) hcl z1 ?_ (zo_O.u (by decide)) hW hC ?_
    · rw [eq_mo_patch]
      simp only [nz_0, nz_1, nz_2, nz_3, nz_4, nz_5, nz_6, nz_7, nz_8, nz_9, nz_10, nz_11, nz_12, nz_13, nz_14, nz_15, nz_16, nz_17, nz_18, nz_19, nz_20, nz_21, nz_22, nz_23, nz_24, nz_25, nz_26, nz_27, nz_28, nz_29, nz_30, nz_31, nz_32, nz_33, nz_34, nz_35, nz_36, nz_37, nz_38, nz_39, nz_40, nz_41, nz_42, nz_43, nz_44, nz_45, nz_46, nz_47, nz_48, nz_49, nz_50, nz_51, nz_63, nz_64, nz_66, nz_127, nz_128, nz_246, nz_247, nz_248, nz_250, nz_251, nz_252, nz_254, nz_255, nz_256, nz_400, nz_2500]
      rw [hm1.2.1, so_in hk (by omega) (by omega), Option.bind_some]
      simp only [bI_0]
      rw [if_neg (by rw [r1]; decide), so_in hbk (by omega) (by omega), Option.bind_some]
      simp only [bI_0]
      rw [if_neg (by rw [r2]; decide), if_neg (ni_ne h4 hk (by omega)), nI_clamp hk, if_neg (ni_in k4 hk), hm1.2.1, if_neg (ni_ne e7 hk (by omega))]
    · refine ⟨hm1.1.kept7 (fun s q1 q2 => by rw [zu_s (by omega)]) (fun j hj e7 => by rw [zu_s (by decide)]), ?_, ?_⟩
      · rw [zu_s (by decide), hm1.2.1, pat_len e, show max B.length (k + 1) = B.length by omega]
      · intro i hi
        rw [pat_len e] at hi
        rw [pat_gd e]
        by_cases ei : i = k
        · rw [if_pos ei, ei, zu_e]
        · rw [if_neg ei, zu_k ei]
          exact hm1.2.2 i (by omega)
