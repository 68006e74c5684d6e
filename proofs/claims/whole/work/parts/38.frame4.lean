theorem sc_tofh {M : zm_M} {f g c : Nat} {F : sp_F} (h : rc_F M g F) (hc : c < 8) : ∃ M', fn_fr_takeOverForHandler [.inr (23, f), .inr (23, g), .inl (nI c)] M = some M' ∧ zo_F f M M' ∧ rc_F M' f (F.1, [16 * c + 7], F.2.2) := by
  obtain ⟨M1, a1, a2, a3⟩ := sc_takeOver (f := f) h
  obtain ⟨M2, b1, b2, b3⟩ := sc_empty a3.1
  obtain ⟨M3, c1, c2, c3⟩ := sc_push (t := 16 * c + 7) b3 (by omega)
  have hp : sp_psh (16 * c + 7) [] = some [16 * c + 7] := by
    unfold sp_psh
    have := sp_wd_le (16 * c + 7)
    rw [if_pos (by show 0 + sp_wd (16 * c + 7) ≤ 8; omega)]
  refine ⟨M3, ?_, (a2.tr b2).tr c2, c3 _ hp⟩
  rw [eq_fr_takeOverForHandler, a1]
  simp only [Option.bind_some, b1, nz_7, sc_type, c1]
theorem gd_set {L : List Nat} {a t i : Nat} (h : a < L.length) : (L.set a t).getD i 0 = if i = a then t else L.getD i 0 := by
  rw [List.getD_eq_getElem?_getD, List.getD_eq_getElem?_getD]
  by_cases e : i = a
  · subst e
    rw [if_pos rfl, List.getElem?_set_self h]
    rfl
  · rw [if_neg e, List.getElem?_set_ne (Ne.symm e)]
theorem sp_sto_len {L : List Nat} {a t : Nat} : (sp_sto L a t).length = L.length := by
  unfold sp_sto
  dsimp only
  repeat' split
  all_goals simp only [List.length_set]
theorem sc_store {M : zm_M} {f a t : Nat} {F : sp_F} (h : rc_F M f F) (hw : wf_F F) (ha : a < 10) (ht : t < 2 ^ 31) (h9 : sp_wd t = 2 → a < 9) : ∃ M', fn_fr_store [.inr (23, f), .inl (nI a), .inl (nI t)] M = some M' ∧ zo_F f M M' ∧ rc_F M' f (sp_sto F.1 a t, F.2.1, F.2.2) := by
  obtain ⟨⟨l, b, c, d, e⟩, hsl, h8⟩ := h
  -- the last two stores
  have fin : ∀ (Q : zm_M) (L : List Nat), zo_F f M Q → L.length = 10 → (∀ i, i < 10 → Q 24 f i = nI (L.getD i 0)) → Q 25 f = M 25 f → Q 23 f = M 23 f → ∃ M', (if nI a < nI 0 ∨ 10 ≤ a then none else (fn_mf_widthOf [.inl (nI t)] (zm_up Q 24 f a (nI t))).bind fun q3 => if q3.1 = nI 2 then if nI a + nI 1 < nI 10 then if nI a + nI 1 < nI 0 ∨ 10 ≤ (nI a + nI 1).toNatClampNeg then none else some (zm_up q3.2 24 f ((nI a + nI 1).toNatClampNeg) (nI 0)) else some q3.2 else some q3.2) = some M' ∧ zo_F f M M' ∧ rc_F M' f (if sp_wd t = 2 then (L.set a t).set (a + 1) 0 else L.set a t, F.2.1, F.2.2) := by
    intro Q L hQ hL hQ1 hQ2 hQ3
    have hw2 := sp_wd_le t
    have h1 : ¬ (nI a < nI 0 ∨ 10 ≤ a) := by
      rw [nI_ltI (by omega) (by omega)]
      omega
    rw [if_neg h1, sc_width ht]
    simp (disch := omega) only [Option.bind_some, nI_add, nI_ltI, nI_clamp, nI_eq]
    by_cases e2 : sp_wd t = 2
    · have := h9 e2
      rw [if_pos e2, if_pos (by omega), if_neg (by omega), if_pos e2]
      refine ⟨_, rfl, (hQ.tr (zo_F.up (by omega))).tr (zo_F.up (by omega)), ⟨by simp only [List.length_set]; exact hL, fun i hi => ?_, ?_, ?_, ?_⟩, ?_, h8⟩
      · dsimp only
        rw [gd_set (by rw [List.length_set]; omega), gd_set (by omega)]
        by_cases q1 : i = a + 1
        · subst q1
          rw [zu_e, if_pos rfl]
        · rw [zu_k q1, if_neg q1]
          by_cases q2 : i = a
          · subst q2
            rw [zu_e, if_pos rfl]
          · rw [zu_k q2, if_neg q2]
            exact hQ1 i hi
      · simp (disch := omega) only [zu_s, zu_e, zu_k]
        rw [hQ3]
        exact c
      · intro i hi
        simp (disch := omega) only [zu_s]
        rw [hQ2]
        exact d i hi
      · simp (disch := omega) only [zu_s, zu_e, zu_k]
        rw [hQ3]
        exact e
      · simp (disch := omega) only [zu_s, zu_e, zu_k]
        rw [hQ3]
        exact hsl
    · rw [if_neg e2, if_neg e2]
      refine ⟨_, rfl, hQ.tr (zo_F.up (by omega)), ⟨by simp only [List.length_set]; exact hL, fun i hi => ?_, ?_, ?_, ?_⟩, ?_, h8⟩
      · dsimp only
        rw [gd_set (by omega)]
        by_cases q2 : i = a
        · subst q2
          rw [zu_e, if_pos rfl]
        · rw [zu_k q2, if_neg q2]
          exact hQ1 i hi
      · simp (disch := omega) only [zu_s, zu_e, zu_k]
        rw [hQ3]
        exact c
      · intro i hi
        simp (disch := omega) only [zu_s]
        rw [hQ2]
        exact d i hi
      · simp (disch := omega) only [zu_s, zu_e, zu_k]
        rw [hQ3]
        exact e
      · simp (disch := omega) only [zu_s, zu_e, zu_k]
        rw [hQ3]
        exact hsl
  have hS : sp_sto F.1 a t = if sp_wd t = 2 then ((if 0 < a ∧ sp_wd (F.1.getD (a - 1) 0) = 2 then F.1.set (a - 1) 0 else F.1).set a t).set (a + 1) 0 else (if 0 < a ∧ sp_wd (F.1.getD (a - 1) 0) = 2 then F.1.set (a - 1) 0 else F.1).set a t := rfl
  rw [eq_fr_store, hS]
  simp only [nz_0, nz_1, nz_2, nz_3, nz_4, nz_5, nz_6, nz_7, nz_8, nz_9, nz_10, nz_11, nz_12, nz_13, nz_14, nz_15, nz_16, nz_17, nz_18, nz_19, nz_20, nz_21, nz_22, nz_23, nz_24, nz_25, nz_26, nz_27, nz_28, nz_29, nz_30, nz_31, nz_32, nz_33, nz_34, nz_35, nz_36, nz_37, nz_38, nz_39, nz_40, nz_41, nz_42, nz_43, nz_44, nz_45, nz_46, nz_47, nz_48, nz_49, nz_50, nz_51, nz_63, nz_64, nz_66, nz_127, nz_128, nz_246, nz_247, nz_248, nz_250, nz_251, nz_252, nz_254, nz_255, nz_256, nz_400, nz_2500]
  rw [nI_clamp (show a < 2 ^ 31 by omega)]
  by_cases a0 : 0 < a
  · have hlt : F.1.getD (a - 1) 0 < 2 ^ 31 := by
      have := sp_wt_lt (hw.1 _ (gd_mem (show a - 1 < F.1.length by omega)))
      omega
    rw [if_pos (show nI 0 < nI a by rw [nI_ltI (by omega) (by omega)]; exact a0), pk_sub (show 1 ≤ a by omega), nI_clamp (show a - 1 < 2 ^ 31 by omega), if_neg (show ¬ (nI (a - 1) < nI 0 ∨ 10 ≤ a - 1) by rw [nI_ltI (by omega) (by omega)]; omega), b (a - 1) (by omega), sc_width hlt]
    simp only [Option.bind_some]
    by_cases e1 : sp_wd (F.1.getD (a - 1) 0) = 2
    · rw [if_pos (show nI (sp_wd (F.1.getD (a - 1) 0)) = nI 2 by rw [e1])]
      have e3 : (0 < a ∧ sp_wd (F.1.getD (a - 1) 0) = 2) := ⟨a0, e1⟩
      rw [if_pos e3, if_neg (show ¬ (nI (a - 1) < nI 0 ∨ 10 ≤ a - 1) by rw [nI_ltI (by omega) (by omega)]; omega)]
      exact fin (zm_up M 24 f (a - 1) (nI 0)) (F.1.set (a - 1) 0) (zo_F.up (by omega)) (by rw [List.length_set]; exact l) (fun i hi => by
        rw [gd_set (by omega)]
        by_cases q : i = a - 1
        · subst q
          rw [zu_e, if_pos rfl]
        · rw [zu_k q, if_neg q]
          exact b i hi) (by rw [zu_s (by decide)]) (by rw [zu_s (by decide)])
    · have e3 : ¬ (0 < a ∧ sp_wd (F.1.getD (a - 1) 0) = 2) := fun q => e1 q.2
      rw [if_neg (show ¬ nI (sp_wd (F.1.getD (a - 1) 0)) = nI 2 by
        have := sp_wd_le (F.1.getD (a - 1) 0)
        rw [nI_eq (by omega) (by omega)]
        exact e1), if_neg e3]
      exact fin M F.1 zo_F.rf l b rfl rfl
  · have e3 : ¬ (0 < a ∧ sp_wd (F.1.getD (a - 1) 0) = 2) := fun q => a0 q.1
    rw [if_neg (show ¬ nI 0 < nI a by rw [nI_ltI (by omega) (by omega)]; exact a0), if_neg e3]
    exact fin M F.1 zo_F.rf l b rfl rfl
