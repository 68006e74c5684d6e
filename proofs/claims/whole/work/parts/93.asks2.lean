/-! row, flow, make -/
def sp_tell (F : sp_F) (w : Nat) : Int32 := if w < 10 then nI (F.1.getD w 0) else if w < 18 then (if w - 10 < F.2.1.length then nI (F.2.1.getD (F.2.1.length - 1 - (w - 10)) 0) else -nI 2) else if w = 20 then nI F.2.1.length else bI F.2.2
theorem sc_tell {M : zm_M} {f w : Nat} {F : sp_F} (h : rc_F M f F) (hw : w < 2 ^ 31) : fn_fr_tell [.inr (23, f), .inl (nI w)] M = some (sp_tell F w, M) := by
  have hl : F.2.1.length ≤ 8 := Nat.le_trans (sp_sl_len _) h.2.2
  rw [eq_fr_tell]
  simp only [nz_0, nz_1, nz_2, nz_3, nz_4, nz_5, nz_6, nz_7, nz_8, nz_9, nz_10, nz_11, nz_12, nz_13, nz_14, nz_15, nz_16, nz_17, nz_18, nz_19, nz_20, nz_21, nz_22, nz_23, nz_24, nz_25, nz_26, nz_27, nz_28, nz_29, nz_30, nz_31, nz_32, nz_33, nz_34, nz_35, nz_36, nz_37, nz_38, nz_39, nz_40, nz_41, nz_42, nz_43, nz_44, nz_45, nz_46, nz_47, nz_48, nz_49, nz_50, nz_51, nz_63, nz_64, nz_66, nz_127, nz_128, nz_246, nz_247, nz_248, nz_250, nz_251, nz_252, nz_254, nz_255, nz_256, nz_400, nz_2500]
  unfold sp_tell
  by_cases e1 : w < 10
  · rw [if_pos (ni_lt e1 hw (by omega)), if_pos e1, nI_clamp hw, if_neg (ni_in e1 hw), h.1.2.1 w e1]
  · rw [if_neg (ni_nl (by omega) hw (by omega)), if_neg e1]
    by_cases e2 : w < 18
    · rw [if_pos (ni_lt e2 hw (by omega)), if_pos e2, pk_sub (by omega), h.1.2.2.1]
      by_cases e3 : w - 10 < F.2.1.length
      · rw [if_pos (ni_lt e3 (by omega) (by omega)), if_pos e3, nI_clamp (by omega), if_neg (ni_in (show w - 10 < 8 by omega) (by omega)), h.1.2.2.2.1 _ e3]
      · rw [if_neg (ni_nl (by omega) (by omega) (by omega)), if_neg e3]
    · rw [if_neg (ni_nl (by omega) hw (by omega)), if_neg e2]
      by_cases e3 : w = 20
      · rw [if_pos (by rw [e3]), if_pos e3, h.1.2.2.1]
      · rw [if_neg (ni_ne e3 hw (by omega)), if_neg e3, h.1.2.2.2.2]
        cases F.2.2 <;> rfl
theorem sc_isQ {w l : Nat} (hw : w < 2 ^ 31) (hl : l < 2 ^ 31) (M : zm_M) : fn_mf_isQuestion [.inl (nI w), .inl (nI l)] M = some (bI (decide (w < 18 ∨ (20 ≤ w ∧ w ≤ l))), M) := by
  rw [eq_mf_isQuestion]
  simp only [nz_0, nz_1, nz_2, nz_3, nz_4, nz_5, nz_6, nz_7, nz_8, nz_9, nz_10, nz_11, nz_12, nz_13, nz_14, nz_15, nz_16, nz_17, nz_18, nz_19, nz_20, nz_21, nz_22, nz_23, nz_24, nz_25, nz_26, nz_27, nz_28, nz_29, nz_30, nz_31, nz_32, nz_33, nz_34, nz_35, nz_36, nz_37, nz_38, nz_39, nz_40, nz_41, nz_42, nz_43, nz_44, nz_45, nz_46, nz_47, nz_48, nz_49, nz_50, nz_51, nz_63, nz_64, nz_66, nz_127, nz_128, nz_246, nz_247, nz_248, nz_250, nz_251, nz_252, nz_254, nz_255, nz_256, nz_400, nz_2500]
  rw [if_neg (ni_nl (by omega) hw (by omega))]
  by_cases e1 : w < 18
  · rw [if_pos (ni_lt e1 hw (by omega)), decide_eq_true (Or.inl e1)]
    rfl
  · rw [if_neg (ni_nl (by omega) hw (by omega))]
    by_cases e2 : w < 20
    · rw [if_pos (ni_lt e2 hw (by omega)), decide_eq_false (by omega)]
      rfl
    · rw [if_neg (ni_nl (by omega) hw (by omega))]
      by_cases e3 : l < w
      · rw [if_pos (ni_lt e3 hl hw), decide_eq_false (by omega)]
        rfl
      · rw [if_neg (ni_nl (by omega) hl hw), decide_eq_true (by omega)]
        rfl
theorem sc_isQn {x : Int32} {l : Nat} (h : x < nI 0) (M : zm_M) : fn_mf_isQuestion [.inl x, .inl (nI l)] M = some (nI 0, M) := by
  rw [eq_mf_isQuestion]
  simp only [nz_0, nz_1, nz_2, nz_3, nz_4, nz_5, nz_6, nz_7, nz_8, nz_9, nz_10, nz_11, nz_12, nz_13, nz_14, nz_15, nz_16, nz_17, nz_18, nz_19, nz_20, nz_21, nz_22, nz_23, nz_24, nz_25, nz_26, nz_27, nz_28, nz_29, nz_30, nz_31, nz_32, nz_33, nz_34, nz_35, nz_36, nz_37, nz_38, nz_39, nz_40, nz_41, nz_42, nz_43, nz_44, nz_45, nz_46, nz_47, nz_48, nz_49, nz_50, nz_51, nz_63, nz_64, nz_66, nz_127, nz_128, nz_246, nz_247, nz_248, nz_250, nz_251, nz_252, nz_254, nz_255, nz_256, nz_400, nz_2500]
  rw [if_pos h, if_pos (ng_lt h (by decide))]
theorem rw_gd {R : List sp_W} {M : zm_M} (hR : rm_R M R) {i : Nat} (hi : i < R.length) : rm_w M i (R.getD i wz) := hR.2.2 i hi
def sp_rtell (q : sp_W) (w : Nat) : Int32 := if w = 21 then nI q.1 else if w = 22 then nI q.2.1 else sp_tell q.2.2 w
/-- the reference tells of a row -/
theorem sm_rtell {M : zm_M} {k w : Nat} {q : sp_W} (hk : k < 50) (hw : w < 18 ∨ (20 ≤ w ∧ w ≤ 22)) (h : rm_w M k q) : (if nI w < nI 10 then if nI 10 * nI k + nI w < nI 0 ∨ 4000 ≤ (nI 10 * nI k + nI w).toNatClampNeg then none else some (M 57 0 (nI 10 * nI k + nI w).toNatClampNeg, M) else if nI w < nI 18 then if nI k < nI 0 ∨ 400 ≤ (nI k).toNatClampNeg then none else if nI w - nI 10 < M 56 0 (nI k).toNatClampNeg then if nI 8 * nI k + nI w - nI 10 < nI 0 ∨ 3200 ≤ (nI 8 * nI k + nI w - nI 10).toNatClampNeg then none else some (M 58 0 (nI 8 * nI k + nI w - nI 10).toNatClampNeg, M) else some (-nI 2, M) else if nI w = nI 20 then if nI k < nI 0 ∨ 400 ≤ (nI k).toNatClampNeg then none else some (M 56 0 (nI k).toNatClampNeg, M) else if nI w = nI 21 then if nI k < nI 0 ∨ 400 ≤ (nI k).toNatClampNeg then none else some (M 54 0 (nI k).toNatClampNeg, M) else if nI k < nI 0 ∨ 400 ≤ (nI k).toNatClampNeg then none else some (M 55 0 (nI k).toNatClampNeg, M)) = some (sp_rtell q w, M) := by
  obtain ⟨w1, w2, ⟨w3, w4, w5, w6, -⟩, w8, wG⟩ := h
  have hl : q.2.2.2.1.length ≤ 8 := Nat.le_trans (sp_sl_len _) w8
  rw [nI_clamp (show k < 2 ^ 31 by omega)]
  simp only [if_neg (ni_in (show k < 400 by omega) (show k < 2 ^ 31 by omega)), pk_mul, nI_add]
  rw [w1, w2, w5]
  unfold sp_rtell sp_tell
  by_cases e1 : w < 10
  · rw [if_pos (ni_lt e1 (by omega) (by omega)), if_neg (show ¬ w = 21 by omega), if_neg (show ¬ w = 22 by omega), if_pos e1, nI_clamp (by omega), if_neg (ni_in (show 10 * k + w < 4000 by omega) (by omega))]
    have := w4 w e1
    dsimp only at this
    rw [this]
  · rw [if_neg (ni_nl (by omega) (by omega) (by omega))]
    by_cases e2 : w < 18
    · rw [if_pos (ni_lt e2 (by omega) (by omega)), if_neg (show ¬ w = 21 by omega), if_neg (show ¬ w = 22 by omega), if_neg e1, if_pos e2, pk_sub (by omega), pk_sub (show 10 ≤ 8 * k + w by omega)]
      by_cases e3 : w - 10 < q.2.2.2.1.length
      · have := w6 (w - 10) e3
        dsimp only at this
        rw [if_pos (ni_lt e3 (by omega) (by omega)), if_pos e3, nI_clamp (by omega), if_neg (ni_in (show 8 * k + w - 10 < 3200 by omega) (by omega)), show 8 * k + w - 10 = 8 * k + (w - 10) by omega, this]
      · rw [if_neg (ni_nl (by omega) (by omega) (by omega)), if_neg e3]
    · rw [if_neg (ni_nl (by omega) (by omega) (by omega))]
      by_cases e20 : w = 20
      · rw [if_pos (by rw [e20]), if_neg (show ¬ w = 21 by omega), if_neg (show ¬ w = 22 by omega), if_neg e1, if_neg e2, if_pos e20]
      · rw [if_neg (ni_ne e20 (by omega) (by omega))]
        by_cases e21 : w = 21
        · rw [if_pos (by rw [e21]), if_pos e21]
        · rw [if_neg (ni_ne e21 (by omega) (by omega)), if_neg e21, if_pos (show w = 22 by omega)]
/-- the reference's answer of row, if the question is one -/
theorem sm_row {P : sp_P} {B : List Nat} {M : zm_M} {x : Int32} {w : Nat} (hW : iw P B) (hm : ivm P B M) (hw : w < 18 ∨ (20 ≤ w ∧ w ≤ 22)) : ∃ M', fn_mo_row [.inr (35, 0), .inl x, .inl (nI w)] M = some ((if x < nI 0 then -nI 2 else match sp_rows P B with
      | none => -nI 2
      | some R => if x.toNatClampNeg < R.length then sp_rtell (R.getD x.toNatClampNeg wz) w else -nI 2), M') ∧ zo_J M M' := by
  obtain ⟨hwP, hl, hb⟩ := hW
  obtain ⟨M1, a1, a2, a3⟩ := sm_readRows hwP hm.1 hm.2 hl hb
  have red : ∀ (Q : zm_M), (match sp_rows P B with
      | none => True
      | some R => rm_R Q R) → ((if bI (sp_rows P B).isSome = nI 0 then some (-nI 2, Q) else (fn_mo_in [.inl x, .inl (nI 0), .inl ((Q 35 0 34) - nI 1)] Q).bind fun q3 => if q3.1 = nI 0 then some (-nI 2, q3.2) else if nI w < nI 10 then if nI 10 * x + nI w < nI 0 ∨ 4000 ≤ (nI 10 * x + nI w).toNatClampNeg then none else some (q3.2 57 0 (nI 10 * x + nI w).toNatClampNeg, q3.2) else if nI w < nI 18 then if x < nI 0 ∨ 400 ≤ x.toNatClampNeg then none else if nI w - nI 10 < q3.2 56 0 x.toNatClampNeg then if nI 8 * x + nI w - nI 10 < nI 0 ∨ 3200 ≤ (nI 8 * x + nI w - nI 10).toNatClampNeg then none else some (q3.2 58 0 (nI 8 * x + nI w - nI 10).toNatClampNeg, q3.2) else some (-nI 2, q3.2) else if nI w = nI 20 then if x < nI 0 ∨ 400 ≤ x.toNatClampNeg then none else some (q3.2 56 0 x.toNatClampNeg, q3.2) else if nI w = nI 21 then if x < nI 0 ∨ 400 ≤ x.toNatClampNeg then none else some (q3.2 54 0 x.toNatClampNeg, q3.2) else if x < nI 0 ∨ 400 ≤ x.toNatClampNeg then none else some (q3.2 55 0 x.toNatClampNeg, q3.2)) = some ((if x < nI 0 then -nI 2 else match sp_rows P B with
      | none => -nI 2
      | some R => if x.toNatClampNeg < R.length then sp_rtell (R.getD x.toNatClampNeg wz) w else -nI 2), Q)) := by
    intro Q hQ
    simp only [bI_0]
    cases hr : sp_rows P B with
    | none =>
      rw [if_pos (by rfl)]
      dsimp only
      rw [ite_self]
    | some R =>
      rw [hr] at hQ
      have hQ : rm_R Q R := hQ
      have hR50 := hQ.1
      rw [if_neg (by rw [Option.isSome_some]; decide), hQ.2.1]
      rcases i_cs x with h | ⟨k, hk, rfl⟩
      · rw [so_inn h, Option.bind_some, if_pos rfl, if_pos h]
      · rw [so_in1b hk (by omega), Option.bind_some, if_neg (ni_nl (by omega) hk (by omega))]
        simp only [bI_0]
        by_cases e : k < R.length
        · rw [if_neg (by rw [decide_eq_true e]; decide), nI_clamp hk, if_pos e]
          have := sm_rtell (show k < 50 by omega) hw (hQ.2.2 k e)
          rw [nI_clamp hk] at this
          exact this
        · rw [if_pos (decide_eq_false e), nI_clamp hk, if_neg e]
  have hQ1 : (match sp_rows P B with
      | none => True
      | some R => rm_R M1 R) := by
    cases hr : sp_rows P B with
    | none => trivial
    | some R => exact a3 R hr
  refine ⟨M1, ?_, a2⟩
  rw [eq_mo_row]
  simp only [nz_0, nz_1, nz_2, nz_3, nz_4, nz_5, nz_6, nz_7, nz_8, nz_9, nz_10, nz_11, nz_12, nz_13, nz_14, nz_15, nz_16, nz_17, nz_18, nz_19, nz_20, nz_21, nz_22, nz_23, nz_24, nz_25, nz_26, nz_27, nz_28, nz_29, nz_30, nz_31, nz_32, nz_33, nz_34, nz_35, nz_36, nz_37, nz_38, nz_39, nz_40, nz_41, nz_42, nz_43, nz_44, nz_45, nz_46, nz_47, nz_48, nz_49, nz_50, nz_51, nz_63, nz_64, nz_66, nz_127, nz_128, nz_246, nz_247, nz_248, nz_250, nz_251, nz_252, nz_254, nz_255, nz_256, nz_400, nz_2500]
  by_cases e : w < 18
  · rw [so_in (by omega) (by omega) (by omega), Option.bind_some, if_neg (by rw [decide_eq_true (Nat.zero_le w), decide_eq_true (show w ≤ 17 by omega)]; exact (by decide : ¬ bI (true && true) = nI 0)), a1, Option.bind_some]
    exact red M1 hQ1
  · rw [so_in (by omega) (by omega) (by omega), Option.bind_some, if_pos (by rw [decide_eq_false (show ¬ w ≤ 17 by omega), Bool.and_false]; rfl), so_in (by omega) (by omega) (by omega), Option.bind_some, if_neg (by rw [decide_eq_true (show 20 ≤ w by omega), decide_eq_true (show w ≤ 22 by omega)]; exact (by decide : ¬ bI (true && true) = nI 0)), a1, Option.bind_some]
    exact red M1 hQ1
theorem cl_row {P : sp_P} {B : List Nat} {M : zm_M} (hi : iv P B M) (x y : Int32) : cl (fn_mf_row [.inr (0, 0), .inl x, .inl y]) (fn_mo_row [.inr (35, 0), .inl x, .inl y]) M := by
  obtain ⟨hW, hc, hm⟩ := id hi
  obtain ⟨hw, hl, hb⟩ := id hW
  rcases i_cs y with h | ⟨w, hwk, rfl⟩
  · refine cl_same hi (v := -nI 1) ?_ ?_
    · rw [eq_mf_row, nz_22, sc_isQn h, Option.bind_some, nz_0, if_pos rfl, nz_1]
    · rw [eq_mo_row]
      simp only [nz_0, nz_1, nz_2, nz_3, nz_4, nz_5, nz_6, nz_7, nz_8, nz_9, nz_10, nz_11, nz_12, nz_13, nz_14, nz_15, nz_16, nz_17, nz_18, nz_19, nz_20, nz_21, nz_22, nz_23, nz_24, nz_25, nz_26, nz_27, nz_28, nz_29, nz_30, nz_31, nz_32, nz_33, nz_34, nz_35, nz_36, nz_37, nz_38, nz_39, nz_40, nz_41, nz_42, nz_43, nz_44, nz_45, nz_46, nz_47, nz_48, nz_49, nz_50, nz_51, nz_63, nz_64, nz_66, nz_127, nz_128, nz_246, nz_247, nz_248, nz_250, nz_251, nz_252, nz_254, nz_255, nz_256, nz_400, nz_2500]
      rw [so_inn h, Option.bind_some, if_pos rfl, so_inn (ng_lt h (by decide)), Option.bind_some, if_pos rfl]
  by_cases e : w < 18 ∨ (20 ≤ w ∧ w ≤ 22)
  rotate_left
  · refine cl_same hi (v := -nI 1) ?_ ?_
    · rw [eq_mf_row, nz_22, sc_isQ hwk (by decide), Option.bind_some, nz_0, decide_eq_false e, if_pos (show bI false = nI 0 from rfl), nz_1]
    · rw [eq_mo_row]
      simp only [nz_0, nz_1, nz_2, nz_3, nz_4, nz_5, nz_6, nz_7, nz_8, nz_9, nz_10, nz_11, nz_12, nz_13, nz_14, nz_15, nz_16, nz_17, nz_18, nz_19, nz_20, nz_21, nz_22, nz_23, nz_24, nz_25, nz_26, nz_27, nz_28, nz_29, nz_30, nz_31, nz_32, nz_33, nz_34, nz_35, nz_36, nz_37, nz_38, nz_39, nz_40, nz_41, nz_42, nz_43, nz_44, nz_45, nz_46, nz_47, nz_48, nz_49, nz_50, nz_51, nz_63, nz_64, nz_66, nz_127, nz_128, nz_246, nz_247, nz_248, nz_250, nz_251, nz_252, nz_254, nz_255, nz_256, nz_400, nz_2500]
      rw [so_in hwk (by omega) (by omega), Option.bind_some, if_pos (by rw [decide_eq_false (show ¬ w ≤ 17 by omega), Bool.and_false]; rfl), so_in hwk (by omega) (by omega), Option.bind_some, if_pos (by
        by_cases e2 : 20 ≤ w
        · rw [decide_eq_false (show ¬ w ≤ 22 by omega), Bool.and_false]
          rfl
        · rw [decide_eq_false e2, Bool.false_and]
          rfl)]
  have key : ∃ M1, fn_mf_row [.inr (0, 0), .inl x, .inl (nI w)] M = some ((if x < nI 0 then -nI 2 else match sp_rows P B with
      | none => -nI 2
      | some R => if x.toNatClampNeg < R.length then sp_rtell (R.getD x.toNatClampNeg wz) w else -nI 2), M1) ∧ zo_H M M1 ∧ ivc P B M1 := by
    rw [eq_mf_row, nz_22, sc_isQ hwk (by decide), Option.bind_some, decide_eq_true e]
    simp only [nz_0, nz_1, nz_2, nz_3, nz_4, nz_5, nz_6, nz_7, nz_8, nz_9, nz_10, nz_11, nz_12, nz_13, nz_14, nz_15, nz_16, nz_17, nz_18, nz_19, nz_20, nz_21, nz_22, nz_23, nz_24, nz_25, nz_26, nz_27, nz_28, nz_29, nz_30, nz_31, nz_32, nz_33, nz_34, nz_35, nz_36, nz_37, nz_38, nz_39, nz_40, nz_41, nz_42, nz_43, nz_44, nz_45, nz_46, nz_47, nz_48, nz_49, nz_50, nz_51, nz_63, nz_64, nz_66, nz_127, nz_128, nz_246, nz_247, nz_248, nz_250, nz_251, nz_252, nz_254, nz_255, nz_256, nz_400, nz_2500]
    rw [if_neg (show ¬ bI true = nI 0 by decide)]
    by_cases hx : x < nI 0
    · rw [if_pos hx, if_pos hx]
      exact ⟨M, rfl, zo_H.rf, hc⟩
    · rw [if_neg hx]
      simp only [if_neg hx]
      obtain ⟨k, hk, rfl⟩ := (i_cs x).resolve_left hx
      obtain ⟨M1, a1, a2, a3, a4, a5⟩ := iv_read hi
      rw [a1, Option.bind_some, nI_clamp hk]
      simp only [bI_0]
      refine ⟨M1, ?_, a2, a3⟩
      cases hr : sp_rows P B with
      | none =>
        rw [if_pos (by rfl)]
      | some R =>
        have hR := a4.2.2 R hr
        have hR50 := hR.1
        rw [if_neg (by rw [Option.isSome_some]; decide), hR.2.1]
        dsimp only
        by_cases ek : k < R.length
        · obtain ⟨k1, k2, k3, k4⟩ := hR.2.2.1 k ek
          rw [if_pos (ni_lt ek hk (by omega)), if_pos ek]
          simp only [if_neg (ni_in (show k < 50 by omega) hk)]
          rw [k1, k2, sc_tell k3 hwk, Option.bind_some]
          unfold sp_rtell
          by_cases e21 : w = 21
          · rw [if_pos (by rw [e21]), if_pos e21]
          · rw [if_neg (ni_ne e21 hwk (by omega)), if_neg e21]
            by_cases e22 : w = 22
            · rw [if_pos (by rw [e22]), if_pos e22]
            · rw [if_neg (ni_ne e22 hwk (by omega)), if_neg e22]
        · rw [if_neg (ni_nl (by omega) hk (by omega)), if_neg ek]
  obtain ⟨M1, a1, a2, a3⟩ := key
  have hm1 := a2.m hm
  obtain ⟨M2, b1, b2⟩ := sm_row (x := x) hW hm1 e
  exact cl_mk a1 a2 b1 b2.O hW a3 ⟨b2.P hm1.1, b2.B hm1.2⟩
