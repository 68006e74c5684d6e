theorem st_sum {M : zm_M} {f t : Nat} {F : sp_F} (h : rc_F M f F) (hw : wf_F F) (ht : t < 7) : st_R f M ((fn_fr_take [.inr (23, f), .inl (nI t)] M).bind fun q1 => if q1.1 = nI 0 then some (nI 0, q1.2) else (fn_fr_take [.inr (23, f), .inl (nI t)] q1.2).bind fun q2 => if q2.1 = nI 0 then some (nI 0, q2.2) else (fn_fr_push [.inr (23, f), .inl (nI t)] q2.2).bind fun q3 => if q3.1 = nI 0 then some (nI 0, q3.2) else some (nI 1, q3.2)) ((sp_sum t F.2.1).map fun T => (F.1, T, F.2.2)) := by
  obtain ⟨L, T, b⟩ := F
  have := st_take (k := fun Q => (fn_fr_take [.inr (23, f), .inl (nI t)] Q).bind fun q2 => if q2.1 = nI 0 then some (nI 0, q2.2) else (fn_fr_push [.inr (23, f), .inl (nI t)] q2.2).bind fun q3 => if q3.1 = nI 0 then some (nI 0, q3.2) else some (nI 1, q3.2)) (ok := fun T => match T with
    | x :: T' => if x = t then (sp_psh t T').map fun T => (L, T, b) else none
    | [] => none) zo_F.rf h hw (show t < 2 ^ 31 by omega) (fun M' T' _ h1 h2 h3 => st_take (k := fun Q => (fn_fr_push [.inr (23, f), .inl (nI t)] Q).bind fun q3 => if q3.1 = nI 0 then some (nI 0, q3.2) else some (nI 1, q3.2)) (ok := fun T => (sp_psh t T).map fun T => (L, T, b)) h1 h2 h3 (show t < 2 ^ 31 by omega) (fun M'' T'' _ g1 g2 g3 => st_psh g1 g2 g3 (wt_k ht)))
  cases T with
  | nil => exact this
  | cons y T =>
    cases T with
    | nil =>
      dsimp only at this
      rw [ite_self] at this
      exact this
    | cons x T =>
      unfold sp_sum
      dsimp only at this ⊢
      by_cases e : y = t
      · by_cases e2 : x = t
        · rw [if_pos e, if_pos e2] at this
          rw [if_pos ⟨e, e2⟩]
          exact this
        · rw [if_pos e, if_neg e2] at this
          rw [if_neg (fun q => e2 q.2)]
          exact this
      · rw [if_neg e] at this
        rw [if_neg (fun q => e q.1)]
        exact this
theorem st_one {M : zm_M} {f t : Nat} {L T : List Nat} {b : Bool} {o : Nat} (h : rc_F M f (L, t :: T, b)) (hw : wf_F (L, t :: T, b)) : (o = 8 → st_R f M (fn_ma_stepOne [.inr (17, 0), .inl (nI o), .inl (nI t), .inr (23, f)] M) ((sp_psh t (t :: T)).map fun T => (L, T, b))) ∧ (o = 6 → st_R f M (fn_ma_stepOne [.inr (17, 0), .inl (nI o), .inl (nI t), .inr (23, f)] M) (some (L, T, b))) := by
  have hx := sp_wt_lt (hw.2 t List.mem_cons_self)
  refine ⟨?_, ?_⟩
  · rintro rfl
    rw [eq_ma_stepOne]
    simp only [nz_0, nz_1, nz_2, nz_3, nz_4, nz_5, nz_6, nz_7, nz_8, nz_9, nz_10, nz_11, nz_12, nz_13, nz_14, nz_15, nz_16, nz_17, nz_18, nz_19, nz_20, nz_21, nz_22, nz_23, nz_24, nz_25, nz_26, nz_27, nz_28, nz_29, nz_30, nz_31, nz_32, nz_33, nz_34, nz_35, nz_36, nz_37, nz_38, nz_39, nz_40, nz_41, nz_42, nz_43, nz_44, nz_45, nz_46, nz_47, nz_48, nz_49, nz_50, nz_51, nz_63, nz_64, nz_66, nz_127, nz_128, nz_246, nz_247, nz_248, nz_250, nz_251, nz_252, nz_254, nz_255, nz_256, nz_400, nz_2500]
    rw [if_pos trivial]
    exact st_R.b (st_psh' zo_F.rf h hw (hw.2 t List.mem_cons_self))
  · rintro rfl
    rw [eq_ma_stepOne]
    simp only [nz_0, nz_1, nz_2, nz_3, nz_4, nz_5, nz_6, nz_7, nz_8, nz_9, nz_10, nz_11, nz_12, nz_13, nz_14, nz_15, nz_16, nz_17, nz_18, nz_19, nz_20, nz_21, nz_22, nz_23, nz_24, nz_25, nz_26, nz_27, nz_28, nz_29, nz_30, nz_31, nz_32, nz_33, nz_34, nz_35, nz_36, nz_37, nz_38, nz_39, nz_40, nz_41, nz_42, nz_43, nz_44, nz_45, nz_46, nz_47, nz_48, nz_49, nz_50, nz_51, nz_63, nz_64, nz_66, nz_127, nz_128, nz_246, nz_247, nz_248, nz_250, nz_251, nz_252, nz_254, nz_255, nz_256, nz_400, nz_2500]
    obtain ⟨M1, q1, q2, q3⟩ := sc_drop h (by omega)
    rw [if_neg (by decide), q1]
    exact st_R.yes q2 q3 (wf_tail hw)
theorem st_two {M : zm_M} {f x : Nat} {L T : List Nat} {b : Bool} {o : Nat} (h : rc_F M f (L, x :: T, b)) (hw : wf_F (L, x :: T, b)) : (o = 9 → st_R f M (fn_ma_stepTwo [.inr (17, 0), .inl (nI o), .inr (23, f)] M) (match T with
    | y :: T => if sp_sm y then some (L, y :: x :: T, b) else none
    | [] => none)) ∧ (o = 7 → st_R f M (fn_ma_stepTwo [.inr (17, 0), .inl (nI o), .inr (23, f)] M) (match T with
    | y :: T => if sp_sm y then some (L, T, b) else none
    | [] => none)) := by
  have hx := sp_wt_lt (hw.2 x List.mem_cons_self)
  have key : ∀ o, fn_ma_stepTwo [.inr (17, 0), .inl (nI o), .inr (23, f)] M = if ((x :: T)[1]?).any sp_sm = false then some (nI 0, M) else if nI o = nI 9 then (fn_fr_swap [.inr (23, f)] M).bind fun q5 => some (nI 1, q5) else (fn_fr_drop [.inr (23, f)] M).bind fun q3 => (fn_fr_drop [.inr (23, f)] q3).bind fun q4 => some (nI 1, q4) := by
    intro o
    rw [eq_ma_stepTwo, nz_1, sc_peek h (by decide)]
    simp only [Option.bind_some]
    rw [sc_small_v hw.2]
    simp only [Option.bind_some, nz_0, nz_1, nz_2, nz_3, nz_4, nz_5, nz_6, nz_7, nz_8, nz_9, nz_10, nz_11, nz_12, nz_13, nz_14, nz_15, nz_16, nz_17, nz_18, nz_19, nz_20, nz_21, nz_22, nz_23, nz_24, nz_25, nz_26, nz_27, nz_28, nz_29, nz_30, nz_31, nz_32, nz_33, nz_34, nz_35, nz_36, nz_37, nz_38, nz_39, nz_40, nz_41, nz_42, nz_43, nz_44, nz_45, nz_46, nz_47, nz_48, nz_49, nz_50, nz_51, nz_63, nz_64, nz_66, nz_127, nz_128, nz_246, nz_247, nz_248, nz_250, nz_251, nz_252, nz_254, nz_255, nz_256, nz_400, nz_2500, bI_0]
  refine ⟨?_, ?_⟩
  · rintro rfl
    rw [key]
    cases T with
    | nil => exact st_R.no zo_F.rf
    | cons y T =>
      obtain ⟨M1, q1, q2, q3⟩ := sc_swap h
      rw [q1]
      show st_R f M (if sp_sm y = false then some (nI 0, M) else some (nI 1, M1)) (if sp_sm y then some (L, y :: x :: T, b) else none)
      rcases Bool.eq_false_or_eq_true (sp_sm y) with hk | hk
      · rw [if_neg (by rw [hk]; decide), if_pos hk]
        exact st_R.yes q2 q3 (wf_cons (wf_cons (wf_tail (wf_tail hw)) (hw.2 x List.mem_cons_self)) (hw.2 y (List.mem_cons_of_mem _ List.mem_cons_self)))
      · rw [if_pos hk, if_neg (by rw [hk]; decide)]
        exact st_R.no zo_F.rf
  · rintro rfl
    rw [key]
    cases T with
    | nil => exact st_R.no zo_F.rf
    | cons y T =>
      have hy := sp_wt_lt (hw.2 y (List.mem_cons_of_mem _ List.mem_cons_self))
      obtain ⟨M1, q1, q2, q3⟩ := sc_drop h (by omega)
      obtain ⟨M2, r1, r2, r3⟩ := sc_drop q3 (by omega)
      rw [q1]
      simp only [Option.bind_some]
      rw [r1]
      show st_R f M (if sp_sm y = false then some (nI 0, M) else some (nI 1, M2)) (if sp_sm y then some (L, T, b) else none)
      rcases Bool.eq_false_or_eq_true (sp_sm y) with hk | hk
      · rw [if_neg (by rw [hk]; decide), if_pos hk]
        exact st_R.yes (q2.tr r2) r3 (wf_tail (wf_tail hw))
      · rw [if_pos hk, if_neg (by rw [hk]; decide)]
        exact st_R.no zo_F.rf
