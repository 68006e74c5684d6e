theorem sc_kind_m1 (M : zm_M) : fn_mf_kindOf [.inl (-nI 1)] M = some (nI 15, M) := by
  rw [eq_mf_kindOf]
  rfl
theorem sc_is_m1 {c : Nat} (hc : c < 8) (M : zm_M) : fn_fa_is [.inr (1, 0), .inl (-nI 1), .inl (nI (16 * c + 7))] M = some (nI 0, M) := by
  have hk : sp_kd (16 * c + 7) = 7 := by unfold sp_kd; omega
  rw [eq_fa_is, if_neg (vz_ne (by omega)), sc_kind (show 16 * c + 7 < 2 ^ 31 by omega)]
  simp (disch := omega) only [nz_0, nz_1, nz_2, nz_3, nz_4, nz_5, nz_6, nz_7, nz_8, nz_9, nz_10, nz_11, nz_12, nz_13, nz_14, nz_15, nz_16, nz_17, nz_18, nz_19, nz_20, nz_21, nz_22, nz_23, nz_24, nz_25, nz_26, nz_27, nz_28, nz_29, nz_30, nz_31, nz_32, nz_33, nz_34, nz_35, nz_36, nz_37, nz_38, nz_39, nz_40, nz_41, nz_42, nz_43, nz_44, nz_45, nz_46, nz_47, nz_48, nz_49, nz_50, nz_51, nz_63, nz_64, nz_66, nz_127, nz_128, nz_246, nz_247, nz_248, nz_250, nz_251, nz_252, nz_254, nz_255, nz_256, nz_400, nz_2500, nI_eq, nI_ltI, nI_leI, nI_add, nI_clamp, pk_mul, Option.bind_some, sc_part (show 16 * c + 7 < 2 ^ 31 by omega), sc_kind_m1, hk]
  rw [if_neg (by omega), if_pos trivial, if_neg (vz_ne (by decide)), if_neg (by decide)]
theorem wt_k {t : Nat} (h : t < 7) : sp_wt t := Or.inl h
theorem wt_7 {c : Nat} (h : c < 8) : sp_wt (16 * c + 7) := Or.inr (Or.inl ⟨by unfold sp_kd; omega, by unfold sp_pt; omega⟩)
theorem st_swp {M : zm_M} {f t u : Nat} {F : sp_F} (h : rc_F M f F) (hw : wf_F F) (ht : t < 7) (hu : u < 7) : st_R f M ((fn_fr_take [.inr (23, f), .inl (nI t)] M).bind fun q1 => if q1.1 = nI 0 then some (nI 0, q1.2) else (fn_fr_push [.inr (23, f), .inl (nI u)] q1.2).bind fun q2 => if q2.1 = nI 0 then some (nI 0, q2.2) else some (nI 1, q2.2)) ((sp_swp t u F.2.1).map fun T => (F.1, T, F.2.2)) := by
  obtain ⟨L, T, b⟩ := F
  have := st_take (k := fun Q => (fn_fr_push [.inr (23, f), .inl (nI u)] Q).bind fun q2 => if q2.1 = nI 0 then some (nI 0, q2.2) else some (nI 1, q2.2)) (ok := fun T => (sp_psh u T).map fun T => (L, T, b)) zo_F.rf h hw (show t < 2 ^ 31 by omega) (fun M' T' _ h1 h2 h3 => st_psh h1 h2 h3 (wt_k hu))
  cases T with
  | nil => exact this
  | cons x T =>
    unfold sp_swp
    dsimp only at this ⊢
    by_cases e : x = t
    · rw [if_pos e] at this ⊢
      exact this
    · rw [if_neg e] at this ⊢
      exact this
theorem st_other {P : sp_P} {M : zm_M} {f o : Nat} {F : sp_F} (hwP : wf_P P) (hP : rc_P P M) (h : rc_F M f F) (hw : wf_F F) (h1 : 14 ≤ o) (h2 : o ≤ 20) : st_R f M (fn_ma_stepToOther [.inr (17, 0), .inl (nI o), .inr (23, f)] M) ((sp_stk P o F).map fun T => (F.1, T, F.2.2)) := by
  rw [eq_ma_stepToOther]
  simp only [nz_0, nz_1, nz_2, nz_3, nz_4, nz_5, nz_6, nz_7, nz_8, nz_9, nz_10, nz_11, nz_12, nz_13, nz_14, nz_15, nz_16, nz_17, nz_18, nz_19, nz_20, nz_21, nz_22, nz_23, nz_24, nz_25, nz_26, nz_27, nz_28, nz_29, nz_30, nz_31, nz_32, nz_33, nz_34, nz_35, nz_36, nz_37, nz_38, nz_39, nz_40, nz_41, nz_42, nz_43, nz_44, nz_45, nz_46, nz_47, nz_48, nz_49, nz_50, nz_51, nz_63, nz_64, nz_66, nz_127, nz_128, nz_246, nz_247, nz_248, nz_250, nz_251, nz_252, nz_254, nz_255, nz_256, nz_400, nz_2500]
  rw [hP.2.2.2.1, hP.2.2.1, h.1.2.2.2.2]
  rcases (show o = 14 ∨ o = 15 ∨ o = 16 ∨ o = 17 ∨ o = 18 ∨ o = 19 ∨ o = 20 by omega) with rfl | rfl | rfl | rfl | rfl | rfl | rfl
  · exact st_swp h hw (by decide) (by decide)
  · exact st_swp h hw (by decide) (by decide)
  · exact st_swp h hw (by decide) (by decide)
  · exact st_swp h hw (by decide) (by decide)
  · rw [if_neg (by decide), if_neg (by decide), if_neg (by decide), if_neg (by decide), if_pos rfl]
    simp only [bI_0]
    have hm := hwP.2.2.1
    simp (disch := omega) only [nI_eq, nI_ltI, nI_leI, nI_add, nI_clamp, pk_mul]
    show st_R f M _ ((if pg_giv P || (pg_mode P == 2 && F.2.2) then none else some F.2.1).map fun T => (F.1, T, F.2.2))
    cases hg : pg_giv P
    · rw [if_pos rfl]
      by_cases m2 : pg_mode P = 2
      · rw [if_pos m2, show (pg_mode P == 2) = true by simp [m2]]
        cases hb : F.2.2
        · rw [if_pos rfl]
          obtain ⟨L, T, b⟩ := F
          dsimp only at hb
          subst hb
          exact st_R.yes zo_F.rf h hw
        · rw [if_neg (by decide)]
          exact st_R.no zo_F.rf
      · rw [if_neg m2, show (pg_mode P == 2) = false from beq_eq_false_iff_ne.mpr m2]
        exact st_R.yes zo_F.rf h hw
    · rw [if_neg (by decide)]
      exact st_R.no zo_F.rf
  · rw [if_neg (by decide), if_neg (by decide), if_neg (by decide), if_neg (by decide), if_neg (by decide), if_pos rfl]
    simp only [bI_0]
    obtain ⟨L, T, b⟩ := F
    have := st_take (k := fun Q => some (nI 1, Q)) (ok := fun T => some (L, T, b)) zo_F.rf h hw (show 1 < 2 ^ 31 by omega) (fun M' T' _ h1 h2 h3 => st_R.yes h1 h2 h3)
    by_cases g : pg_giv P = true
    · rw [if_neg (by rw [g]; decide)]
      cases T with
      | nil => exact this
      | cons x T =>
        show st_R f M _ ((if pg_giv P && x == 1 then some T else none).map fun T => (L, T, b))
        dsimp only at this
        by_cases e : x = 1
        · rw [if_pos e] at this
          rw [g, e]
          exact this
        · rw [if_neg e] at this
          rw [show (x == 1) = false from beq_eq_false_iff_ne.mpr e, Bool.and_false]
          exact this
    · have g : pg_giv P = false := by simpa using g
      rw [if_pos g]
      cases T with
      | nil => exact st_R.no zo_F.rf
      | cons x T =>
        show st_R f M _ ((if pg_giv P && x == 1 then some T else none).map fun T => (L, T, b))
        rw [g]
        exact st_R.no zo_F.rf
  · rw [if_neg (by decide), if_neg (by decide), if_neg (by decide), if_neg (by decide), if_neg (by decide), if_neg (by decide), sc_peek h (by decide)]
    simp only [Option.bind_some]
    refine st_R.b ?_
    obtain ⟨L, T, b⟩ := F
    cases T with
    | nil =>
      show st_R f M (fn_fa_is [.inr (1, 0), .inl (-nI 1), .inl (nI (16 * 0 + 7))] M) none
      rw [sc_is_m1 (by decide)]
      exact st_R.no zo_F.rf
    | cons x T =>
      have hx := hw.2 x List.mem_cons_self
      show st_R f M (fn_fa_is [.inr (1, 0), .inl (nI x), .inl (nI 7)] M) ((if sp_op x && sp_is P x 7 then some (x :: T) else none).map fun T => (L, T, b))
      rw [sc_is hP.1 hx (wt_7 (c := 0) (by decide))]
      have hop : sp_is P x 7 = true → sp_op x = true := by
        unfold sp_is sp_op
        simp only [Bool.or_eq_true, Bool.and_eq_true, beq_iff_eq]
        rintro ((q | q) | ⟨-, q⟩)
        · right
          rw [q]
          rfl
        · cases q
        · rcases q with q | q
          · exact Or.inl q
          · exact Or.inr q.1
      cases hi : sp_is P x 7
      · rw [Bool.and_false]
        exact st_R.no zo_F.rf
      · rw [hop hi]
        exact st_R.yes zo_F.rf h hw
