/-! instructions -/
def sp_wl (o : Nat) : Bool := o == 22 || o == 24 || o == 27 || o == 29
theorem wl_wd {o : Nat} (h1 : 21 ≤ o) (h2 : o ≤ 30) : sp_wd (sp_tk (if o ≤ 25 then o - 21 else o - 26)) = if sp_wl o then 2 else 1 := by
  have : o = 21 ∨ o = 22 ∨ o = 23 ∨ o = 24 ∨ o = 25 ∨ o = 26 ∨ o = 27 ∨ o = 28 ∨ o = 29 ∨ o = 30 := by omega
  rcases this with rfl | rfl | rfl | rfl | rfl | rfl | rfl | rfl | rfl | rfl <;> rfl
theorem so_isWL {o : Nat} (ho : o < 2 ^ 31) (M : zm_M) : fn_mo_isWideLocal [.inl (nI o)] M = some (bI (sp_wl o), M) := by
  rw [eq_mo_isWideLocal]
  simp only [nz_0, nz_1, nz_2, nz_3, nz_4, nz_5, nz_6, nz_7, nz_8, nz_9, nz_10, nz_11, nz_12, nz_13, nz_14, nz_15, nz_16, nz_17, nz_18, nz_19, nz_20, nz_21, nz_22, nz_23, nz_24, nz_25, nz_26, nz_27, nz_28, nz_29, nz_30, nz_31, nz_32, nz_33, nz_34, nz_35, nz_36, nz_37, nz_38, nz_39, nz_40, nz_41, nz_42, nz_43, nz_44, nz_45, nz_46, nz_47, nz_48, nz_49, nz_50, nz_51, nz_63, nz_64, nz_66, nz_127, nz_128, nz_246, nz_247, nz_248, nz_250, nz_251, nz_252, nz_254, nz_255, nz_256, nz_400, nz_2500]
  unfold sp_wl
  by_cases e1 : o = 22
  · rw [if_pos (by rw [e1]), beq_iff_eq.mpr e1]
    rfl
  · rw [if_neg (ni_ne e1 ho (by omega)), beq_eq_false_iff_ne.mpr e1]
    by_cases e2 : o = 24
    · rw [if_pos (by rw [e2]), beq_iff_eq.mpr e2]
      rfl
    · rw [if_neg (ni_ne e2 ho (by omega)), beq_eq_false_iff_ne.mpr e2]
      by_cases e3 : o = 27
      · rw [if_pos (by rw [e3]), beq_iff_eq.mpr e3]
        rfl
      · rw [if_neg (ni_ne e3 ho (by omega)), beq_eq_false_iff_ne.mpr e3]
        by_cases e4 : o = 29
        · rw [if_pos (by rw [e4]), beq_iff_eq.mpr e4]
          rfl
        · rw [if_neg (ni_ne e4 ho (by omega)), beq_eq_false_iff_ne.mpr e4]
          rfl
theorem sc_isI {o : Nat} (ho : o ≤ 39) (x1 x2 : Int32) (M : zm_M) : fn_mf_isInstruction [.inl (nI o), .inl x1, .inl x2] M = if 21 ≤ o ∧ o ≤ 30 then (if x1 < nI 0 then some (nI 0, M) else if nI (if sp_wl o then 8 else 9) < x1 then some (nI 0, M) else some (nI 1, M)) else if 31 ≤ o ∧ o ≤ 34 then (fn_mf_isPlace [.inl x2] M).bind (fun q5 => if q5.1 = nI 0 ∨ q5.1 = nI 1 then some (q5.1, q5.2) else none) else if o < 35 then some (nI 1, M) else (fn_mf_isClass [.inl x1] M).bind fun q3 => if q3.1 = nI 0 then some (nI 0, q3.2) else if o = 38 then (fn_mf_isClass [.inl x2] q3.2).bind fun q4 => if q4.1 = nI 0 then some (nI 0, q4.2) else some (nI 1, q4.2) else some (nI 1, q3.2) := by
  rw [eq_mf_isInstruction]
  simp only [nz_0, nz_1, nz_2, nz_3, nz_4, nz_5, nz_6, nz_7, nz_8, nz_9, nz_10, nz_11, nz_12, nz_13, nz_14, nz_15, nz_16, nz_17, nz_18, nz_19, nz_20, nz_21, nz_22, nz_23, nz_24, nz_25, nz_26, nz_27, nz_28, nz_29, nz_30, nz_31, nz_32, nz_33, nz_34, nz_35, nz_36, nz_37, nz_38, nz_39, nz_40, nz_41, nz_42, nz_43, nz_44, nz_45, nz_46, nz_47, nz_48, nz_49, nz_50, nz_51, nz_63, nz_64, nz_66, nz_127, nz_128, nz_246, nz_247, nz_248, nz_250, nz_251, nz_252, nz_254, nz_255, nz_256, nz_400, nz_2500]
  rw [if_neg (ni_nl (by omega) (by omega) (by omega)), if_neg (ni_nl ho (by omega) (by omega)), sc_hasLocal (by omega), Option.bind_some]
  by_cases e1 : 21 ≤ o ∧ o ≤ 30
  · rw [if_neg (nb0 (by rw [decide_eq_true e1.1, decide_eq_true e1.2]; rfl)), if_pos e1, sc_lk e1.1 e1.2, Option.bind_some]
    have htk : sp_tk (if o ≤ 25 then o - 21 else o - 26) < 2 ^ 31 := by
      have : ∀ k, sp_tk k < 2 ^ 31 := by
        intro k
        unfold sp_tk
        split <;> decide
      exact this _
    rw [sc_width htk, Option.bind_some, wl_wd e1.1 e1.2]
    have hsub : nI 10 - nI (if sp_wl o = true then 2 else 1) = nI (if sp_wl o = true then 8 else 9) := by
      cases sp_wl o <;> decide
    show (if x1 < nI 0 then some (nI 0, M) else if nI 10 - nI (if sp_wl o = true then 2 else 1) < x1 then some (nI 0, M) else some (nI 1, M)) = _
    rw [hsub]
  · rw [if_pos (pb0 (by
      rw [Bool.and_eq_false_iff, decide_eq_false_iff_not, decide_eq_false_iff_not]
      omega)), if_neg e1, sc_isJump (by omega), Option.bind_some]
    by_cases e2 : 31 ≤ o ∧ o ≤ 34
    · rw [if_neg (nb0 (by unfold sp_jmp; rw [decide_eq_true e2.1, decide_eq_true e2.2]; rfl)), if_pos e2]
    · rw [if_pos (pb0 (by
        unfold sp_jmp
        rw [Bool.and_eq_false_iff, decide_eq_false_iff_not, decide_eq_false_iff_not]
        omega)), if_neg e2]
      by_cases e3 : o < 35
      · rw [if_pos (ni_lt e3 (by omega) (by omega)), if_pos e3]
      · rw [if_neg (ni_nl (by omega) (by omega) (by omega)), if_neg e3]
        by_cases e4 : o = 38
        · simp only [if_pos (show nI o = nI 38 by rw [e4]), if_pos e4]
        · simp only [if_neg (ni_ne e4 (show o < 2 ^ 31 by omega) (by omega)), if_neg e4]
theorem so_isG {o : Nat} (ho : o ≤ 39) (x1 x2 : Int32) (M : zm_M) : fn_mo_isGood [.inl (nI o), .inl x1, .inl x2] M = if 21 ≤ o ∧ o ≤ 30 then (fn_mo_in [.inl x1, .inl (nI 0), .inl (nI (if sp_wl o then 8 else 9))] M).bind (fun q8 => if q8.1 = nI 0 ∨ q8.1 = nI 1 then some (q8.1, q8.2) else none) else if 31 ≤ o ∧ o ≤ 34 then (fn_mo_in [.inl x2, .inl (nI 0), .inl (nI 49)] M).bind (fun q6 => if q6.1 = nI 0 ∨ q6.1 = nI 1 then some (q6.1, q6.2) else none) else if o < 35 then some (nI 1, M) else (fn_mo_in [.inl x1, .inl (nI 0), .inl (nI 7)] M).bind fun q4 => if q4.1 = nI 0 then some (nI 0, q4.2) else if o = 38 then (fn_mo_in [.inl x2, .inl (nI 0), .inl (nI 7)] q4.2).bind fun q5 => if q5.1 = nI 0 then some (nI 0, q5.2) else some (nI 1, q5.2) else some (nI 1, q4.2) := by
  rw [eq_mo_isGood]
  simp only [nz_0, nz_1, nz_2, nz_3, nz_4, nz_5, nz_6, nz_7, nz_8, nz_9, nz_10, nz_11, nz_12, nz_13, nz_14, nz_15, nz_16, nz_17, nz_18, nz_19, nz_20, nz_21, nz_22, nz_23, nz_24, nz_25, nz_26, nz_27, nz_28, nz_29, nz_30, nz_31, nz_32, nz_33, nz_34, nz_35, nz_36, nz_37, nz_38, nz_39, nz_40, nz_41, nz_42, nz_43, nz_44, nz_45, nz_46, nz_47, nz_48, nz_49, nz_50, nz_51, nz_63, nz_64, nz_66, nz_127, nz_128, nz_246, nz_247, nz_248, nz_250, nz_251, nz_252, nz_254, nz_255, nz_256, nz_400, nz_2500]
  rw [so_in (by omega) (by omega) (by omega), Option.bind_some, if_neg (nb0 (by rw [decide_eq_true (Nat.zero_le o), decide_eq_true ho]; rfl)), so_in (by omega) (by omega) (by omega), Option.bind_some]
  by_cases e1 : 21 ≤ o ∧ o ≤ 30
  · rw [if_neg (nb0 (by rw [decide_eq_true e1.1, decide_eq_true e1.2]; rfl)), if_pos e1, so_isWL (by omega), Option.bind_some]
    rcases Bool.eq_false_or_eq_true (sp_wl o) with e | e
    · rw [if_neg (nb0 e), e]
      rfl
    · rw [if_pos (pb0 e), e]
      rfl
  · rw [if_pos (pb0 (by
      rw [Bool.and_eq_false_iff, decide_eq_false_iff_not, decide_eq_false_iff_not]
      omega)), if_neg e1, so_in (by omega) (by omega) (by omega), Option.bind_some]
    by_cases e2 : 31 ≤ o ∧ o ≤ 34
    · rw [if_neg (nb0 (by rw [decide_eq_true e2.1, decide_eq_true e2.2]; rfl)), if_pos e2]
    · rw [if_pos (pb0 (by
        rw [Bool.and_eq_false_iff, decide_eq_false_iff_not, decide_eq_false_iff_not]
        omega)), if_neg e2]
      by_cases e3 : o < 35
      · rw [if_pos (ni_lt e3 (by omega) (by omega)), if_pos e3]
      · rw [if_neg (ni_nl (by omega) (by omega) (by omega)), if_neg e3]
        by_cases e4 : o = 38
        · simp only [if_pos (show nI o = nI 38 by rw [e4]), if_pos e4]
        · simp only [if_neg (ni_ne e4 (show o < 2 ^ 31 by omega) (by omega)), if_neg e4]
def ins_A (o : Nat) : Prop := (21 ≤ o ∧ o ≤ 30) ∨ 35 ≤ o
def ins_B (o : Nat) : Prop := (31 ≤ o ∧ o ≤ 34) ∨ o = 38
def ins_ok (x0 x1 x2 : Int32) (q : Nat × Nat × Nat) : Prop := wf_I q ∧ x0 = nI q.1 ∧ (ins_A q.1 → x1 = nI q.2.1) ∧ (¬ ins_A q.1 → q.2.1 = 0) ∧ (ins_B q.1 → x2 = nI q.2.2) ∧ (¬ ins_B q.1 → q.2.2 = 0)
theorem ins_cs (x0 x1 x2 : Int32) : (∀ M, fn_mf_isInstruction [.inl x0, .inl x1, .inl x2] M = some (nI 0, M) ∧ fn_mo_isGood [.inl x0, .inl x1, .inl x2] M = some (nI 0, M)) ∨ ((∀ M, fn_mf_isInstruction [.inl x0, .inl x1, .inl x2] M = some (nI 1, M) ∧ fn_mo_isGood [.inl x0, .inl x1, .inl x2] M = some (nI 1, M)) ∧ ∃ q, ins_ok x0 x1 x2 q) := by
  rcases i_cs x0 with h | ⟨o, ho, rfl⟩
  · left
    intro M
    constructor
    · rw [eq_mf_isInstruction, nz_0, if_pos h]
    · rw [eq_mo_isGood]
      simp only [nz_0, nz_1, nz_2, nz_3, nz_4, nz_5, nz_6, nz_7, nz_8, nz_9, nz_10, nz_11, nz_12, nz_13, nz_14, nz_15, nz_16, nz_17, nz_18, nz_19, nz_20, nz_21, nz_22, nz_23, nz_24, nz_25, nz_26, nz_27, nz_28, nz_29, nz_30, nz_31, nz_32, nz_33, nz_34, nz_35, nz_36, nz_37, nz_38, nz_39, nz_40, nz_41, nz_42, nz_43, nz_44, nz_45, nz_46, nz_47, nz_48, nz_49, nz_50, nz_51, nz_63, nz_64, nz_66, nz_127, nz_128, nz_246, nz_247, nz_248, nz_250, nz_251, nz_252, nz_254, nz_255, nz_256, nz_400, nz_2500]
      rw [so_inn h, Option.bind_some]
      rfl
  by_cases e39 : o ≤ 39
  rotate_left
  · left
    intro M
    constructor
    · rw [eq_mf_isInstruction]
      simp only [nz_0, nz_1, nz_2, nz_3, nz_4, nz_5, nz_6, nz_7, nz_8, nz_9, nz_10, nz_11, nz_12, nz_13, nz_14, nz_15, nz_16, nz_17, nz_18, nz_19, nz_20, nz_21, nz_22, nz_23, nz_24, nz_25, nz_26, nz_27, nz_28, nz_29, nz_30, nz_31, nz_32, nz_33, nz_34, nz_35, nz_36, nz_37, nz_38, nz_39, nz_40, nz_41, nz_42, nz_43, nz_44, nz_45, nz_46, nz_47, nz_48, nz_49, nz_50, nz_51, nz_63, nz_64, nz_66, nz_127, nz_128, nz_246, nz_247, nz_248, nz_250, nz_251, nz_252, nz_254, nz_255, nz_256, nz_400, nz_2500]
      rw [if_neg (ni_nl (by omega) ho (by omega)), if_pos (ni_lt (by omega) (by omega) ho)]
    · rw [eq_mo_isGood]
      simp only [nz_0, nz_1, nz_2, nz_3, nz_4, nz_5, nz_6, nz_7, nz_8, nz_9, nz_10, nz_11, nz_12, nz_13, nz_14, nz_15, nz_16, nz_17, nz_18, nz_19, nz_20, nz_21, nz_22, nz_23, nz_24, nz_25, nz_26, nz_27, nz_28, nz_29, nz_30, nz_31, nz_32, nz_33, nz_34, nz_35, nz_36, nz_37, nz_38, nz_39, nz_40, nz_41, nz_42, nz_43, nz_44, nz_45, nz_46, nz_47, nz_48, nz_49, nz_50, nz_51, nz_63, nz_64, nz_66, nz_127, nz_128, nz_246, nz_247, nz_248, nz_250, nz_251, nz_252, nz_254, nz_255, nz_256, nz_400, nz_2500]
      rw [so_in0 ho (by omega), Option.bind_some, if_pos (pb0 (decide_eq_false (by omega)))]
  simp only [sc_isI e39, so_isG e39]
  by_cases e1 : 21 ≤ o ∧ o ≤ 30
  · simp only [if_pos e1]
    rcases i_cs x1 with h | ⟨a, ha, rfl⟩
    · left
      intro M
      rw [if_pos h, so_inn h, Option.bind_some]
      exact ⟨rfl, rfl⟩
    · have h8 : (if sp_wl o then 8 else 9) ≤ 9 := by split <;> omega
      have h9 : sp_wl o = false → (if sp_wl o = true then 8 else 9) = 9 := fun h => by rw [h]; rfl
      have h8' : sp_wl o = true → (if sp_wl o = true then 8 else 9) = 8 := fun h => by rw [h]; rfl
      have hwl : sp_wl o = true ↔ (o = 22 ∨ o = 24 ∨ o = 27 ∨ o = 29) := by
        unfold sp_wl
        simp only [Bool.or_eq_true, beq_iff_eq]
        omega
      by_cases e2 : a ≤ (if sp_wl o then 8 else 9)
      · right
        refine ⟨fun M => ⟨?_, ?_⟩, (o, a, 0), ?_⟩
        · rw [if_neg (ni_nl (by omega) ha (by omega)), if_neg (ni_nl e2 (by omega) ha)]
        · rw [so_in0 ha (by omega), decide_eq_true (by omega), Option.bind_some]
          rfl
        · refine ⟨⟨by show o < 40; omega, fun _ _ => ⟨by show a < 10; omega, ?_⟩, fun p1 p2 => ?_, fun p1 => ?_, fun p1 => ?_⟩, rfl, fun _ => rfl, fun p => absurd (Or.inl e1) p, fun p => ?_, fun _ => rfl⟩
          · intro p
            have := h8' (hwl.mpr p)
            show a < 9
            omega
          · have p1 : 31 ≤ o := p1
            omega
          · have p1 : 35 ≤ o := p1
            omega
          · have p1 : o = 38 := p1
            omega
          · have p : (31 ≤ o ∧ o ≤ 34) ∨ o = 38 := p
            omega
      · left
        intro M
        rw [if_neg (ni_nl (by omega) ha (by omega)), if_pos (ni_lt (by omega) (by omega) ha), so_in0 ha (by omega), decide_eq_false (by omega), Option.bind_some]
        exact ⟨rfl, rfl⟩
  · simp only [if_neg e1]
    by_cases e2 : 31 ≤ o ∧ o ≤ 34
    · simp only [if_pos e2]
      rcases i_cs x2 with h | ⟨b, hb, rfl⟩
      · left
        intro M
        rw [sc_isPlacen h, Option.bind_some, so_inn h, Option.bind_some]
        exact ⟨rfl, rfl⟩
      · by_cases eb : b < 50
        · right
          refine ⟨fun M => ⟨?_, ?_⟩, (o, 0, b), ?_⟩
          · rw [sc_isPlace hb, decide_eq_true eb, Option.bind_some]
            rfl
          · rw [so_in0 hb (by omega), decide_eq_true (by omega), Option.bind_some]
            rfl
          · refine ⟨⟨by show o < 40; omega, fun p1 p2 => ?_, fun _ _ => eb, fun p1 => ?_, fun p1 => ?_⟩, rfl, fun p => ?_, fun _ => rfl, fun _ => rfl, fun p => absurd (Or.inl e2) p⟩
            · have p2 : o ≤ 30 := p2
              omega
            · have p1 : 35 ≤ o := p1
              omega
            · have p1 : o = 38 := p1
              omega
            · have p : (21 ≤ o ∧ o ≤ 30) ∨ 35 ≤ o := p
              omega
        · left
          intro M
          rw [sc_isPlace hb, decide_eq_false eb, Option.bind_some, so_in0 hb (by omega), decide_eq_false (by omega), Option.bind_some]
          exact ⟨rfl, rfl⟩
    · simp only [if_neg e2]
      by_cases e3 : o < 35
      · simp only [if_pos e3]
        right
        refine ⟨fun M => ⟨trivial, trivial⟩, (o, 0, 0), ⟨by show o < 40; omega, fun p1 p2 => ?_, fun p1 p2 => ?_, fun p1 => ?_, fun p1 => ?_⟩, rfl, fun p => ?_, fun _ => rfl, fun p => ?_, fun _ => rfl⟩
        · exact absurd ⟨p1, p2⟩ e1
        · exact absurd ⟨p1, p2⟩ e2
        · have p1 : 35 ≤ o := p1
          omega
        · have p1 : o = 38 := p1
          omega
        · have p : (21 ≤ o ∧ o ≤ 30) ∨ 35 ≤ o := p
          omega
        · have p : (31 ≤ o ∧ o ≤ 34) ∨ o = 38 := p
          omega
      · simp only [if_neg e3]
        rcases i_cs x1 with h | ⟨a, ha, rfl⟩
        · left
          intro M
          rw [sc_isClassn h, Option.bind_some, so_inn h, Option.bind_some]
          exact ⟨rfl, rfl⟩
        · by_cases ea : a < 8
          rotate_left
          · left
            intro M
            rw [sc_isClass ha, Option.bind_some, if_pos (pb0 (decide_eq_false ea)), so_in0 ha (by omega), Option.bind_some, if_pos (pb0 (decide_eq_false (by omega)))]
            exact ⟨rfl, rfl⟩
          · by_cases e38 : o = 38
            · simp only [if_pos e38]
              rcases i_cs x2 with h | ⟨b, hb, rfl⟩
              · left
                intro M
                rw [sc_isClass ha, Option.bind_some, if_neg (nb0 (decide_eq_true ea)), so_in0 ha (by omega), Option.bind_some, if_neg (nb0 (decide_eq_true (by omega))), sc_isClassn h, Option.bind_some, so_inn h, Option.bind_some]
                exact ⟨rfl, rfl⟩
              · by_cases eb : b < 8
                · right
                  refine ⟨fun M => ?_, (o, a, b), ⟨by show o < 40; omega, fun p1 p2 => absurd ⟨p1, p2⟩ e1, fun p1 p2 => absurd ⟨p1, p2⟩ e2, fun p1 => ea, fun p1 => eb⟩, rfl, fun p => rfl, fun p => absurd (Or.inr (by omega)) p, fun p => rfl, fun p => absurd (Or.inr e38) p⟩
                  rw [sc_isClass ha, Option.bind_some, if_neg (nb0 (decide_eq_true ea)), so_in0 ha (by omega), Option.bind_some, if_neg (nb0 (decide_eq_true (by omega))), sc_isClass hb, Option.bind_some, if_neg (nb0 (decide_eq_true eb)), so_in0 hb (by omega), Option.bind_some, if_neg (nb0 (decide_eq_true (by omega)))]
                  exact ⟨rfl, rfl⟩
                · left
                  intro M
                  rw [sc_isClass ha, Option.bind_some, if_neg (nb0 (decide_eq_true ea)), so_in0 ha (by omega), Option.bind_some, if_neg (nb0 (decide_eq_true (by omega))), sc_isClass hb, Option.bind_some, if_pos (pb0 (decide_eq_false eb)), so_in0 hb (by omega), Option.bind_some, if_pos (pb0 (decide_eq_false (by omega)))]
                  exact ⟨rfl, rfl⟩
            · simp only [if_neg e38]
              right
              refine ⟨fun M => ?_, (o, a, 0), ⟨by show o < 40; omega, fun p1 p2 => absurd ⟨p1, p2⟩ e1, fun p1 p2 => absurd ⟨p1, p2⟩ e2, fun p1 => ea, fun p1 => absurd p1 e38⟩, rfl, fun p => rfl, fun p => absurd (Or.inr (by omega)) p, fun p => ?_, fun p => rfl⟩
              · rw [sc_isClass ha, Option.bind_some, if_neg (nb0 (decide_eq_true ea)), so_in0 ha (by omega), Option.bind_some, if_neg (nb0 (decide_eq_true (by omega)))]
                exact ⟨rfl, rfl⟩
              · rcases p with p | p
                · exact absurd p e2
                · exact absurd p e38
