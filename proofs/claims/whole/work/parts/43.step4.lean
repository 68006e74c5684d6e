/-! the class's stepOnStack, an op at a time -/
theorem on_6 (f : Nat) (M : zm_M) : fn_ma_stepOnStack [.inr (17, 0), .inl (nI 6), .inr (23, f)] M = (fn_fr_peek [.inr (23, f), .inl (nI 0)] M).bind fun q1 => (fn_mf_isSmall [.inl q1.1] q1.2).bind fun q2 => if q2.1 = nI 0 then some (nI 0, q2.2) else (fn_ma_stepOne [.inr (17, 0), .inl (nI 6), .inl q1.1, .inr (23, f)] q2.2).bind fun q3 => if q3.1 = nI 0 ∨ q3.1 = nI 1 then some (q3.1, q3.2) else none := by
  rw [eq_ma_stepOnStack]
  simp only [nz_0, nz_1, nz_2, nz_5, nz_6, nz_7, nz_8, nz_10]
  rw [if_neg (by decide), if_pos (by decide), if_pos (by decide)]
  simp only [if_neg (show ¬ nI 6 = nI 7 by decide), if_pos]
theorem on_8 (f : Nat) (M : zm_M) : fn_ma_stepOnStack [.inr (17, 0), .inl (nI 8), .inr (23, f)] M = (fn_fr_peek [.inr (23, f), .inl (nI 0)] M).bind fun q1 => (fn_mf_isSmall [.inl q1.1] q1.2).bind fun q2 => if q2.1 = nI 0 then some (nI 0, q2.2) else (fn_ma_stepOne [.inr (17, 0), .inl (nI 8), .inl q1.1, .inr (23, f)] q2.2).bind fun q3 => if q3.1 = nI 0 ∨ q3.1 = nI 1 then some (q3.1, q3.2) else none := by
  rw [eq_ma_stepOnStack]
  simp only [nz_0, nz_1, nz_2, nz_5, nz_6, nz_7, nz_8, nz_10]
  rw [if_neg (by decide), if_pos (by decide), if_pos (by decide)]
  simp only [if_neg (show ¬ nI 8 = nI 7 by decide), if_neg (show ¬ nI 8 = nI 6 by decide), if_pos]
theorem on_9 (f : Nat) (M : zm_M) : fn_ma_stepOnStack [.inr (17, 0), .inl (nI 9), .inr (23, f)] M = (fn_fr_peek [.inr (23, f), .inl (nI 0)] M).bind fun q1 => (fn_mf_isSmall [.inl q1.1] q1.2).bind fun q2 => if q2.1 = nI 0 then some (nI 0, q2.2) else (fn_ma_stepTwo [.inr (17, 0), .inl (nI 9), .inr (23, f)] q2.2).bind fun q3 => if q3.1 = nI 0 ∨ q3.1 = nI 1 then some (q3.1, q3.2) else none := by
  rw [eq_ma_stepOnStack]
  simp only [nz_0, nz_1, nz_2, nz_5, nz_6, nz_7, nz_8, nz_10]
  rw [if_neg (by decide), if_pos (by decide), if_pos (by decide)]
  simp only [if_neg (show ¬ nI 9 = nI 7 by decide), if_neg (show ¬ nI 9 = nI 6 by decide), if_neg (show ¬ nI 9 = nI 8 by decide)]
theorem on_7 (f : Nat) (M : zm_M) : fn_ma_stepOnStack [.inr (17, 0), .inl (nI 7), .inr (23, f)] M = (fn_fr_peek [.inr (23, f), .inl (nI 0)] M).bind fun q1 => (fn_mf_widthOf [.inl q1.1] q1.2).bind fun q6 => if q6.1 = nI 2 then (fn_fr_drop [.inr (23, f)] q6.2).bind fun q11 => some (nI 1, q11) else (fn_mf_isSmall [.inl q1.1] q6.2).bind fun q2 => if q2.1 = nI 0 then some (nI 0, q2.2) else (fn_ma_stepTwo [.inr (17, 0), .inl (nI 7), .inr (23, f)] q2.2).bind fun q3 => if q3.1 = nI 0 ∨ q3.1 = nI 1 then some (q3.1, q3.2) else none := by
  rw [eq_ma_stepOnStack]
  simp only [nz_0, nz_1, nz_2, nz_5, nz_6, nz_7, nz_8, nz_10]
  rw [if_neg (by decide), if_pos (by decide), if_pos (by decide)]
  simp only [if_neg (show ¬ nI 7 = nI 6 by decide), if_neg (show ¬ nI 7 = nI 8 by decide), if_pos]
theorem on_c {o : Nat} (h1 : 1 ≤ o) (h2 : o ≤ 5) (f : Nat) (M : zm_M) : fn_ma_stepOnStack [.inr (17, 0), .inl (nI o), .inr (23, f)] M = (fn_fr_push [.inr (23, f), .inl (nI o)] M).bind fun q3 => if q3.1 = nI 0 ∨ q3.1 = nI 1 then some (q3.1, q3.2) else none := by
  rw [eq_ma_stepOnStack]
  simp only [nz_0, nz_1, nz_2, nz_5, nz_6, nz_7, nz_8, nz_10]
  rw [if_neg (by rw [nI_eq (by omega) (by omega)]; omega), if_neg (by rw [nI_ltI (by omega) (by omega)]; omega)]
theorem on_s {o t : Nat} (h1 : 10 ≤ o) (h2 : o ≤ 13) (ht : zn_at ly_t (o - 10) 0 = nI t) (f : Nat) (M : zm_M) : fn_ma_stepOnStack [.inr (17, 0), .inl (nI o), .inr (23, f)] M = (fn_fr_take [.inr (23, f), .inl (nI t)] M).bind fun q1 => if q1.1 = nI 0 then some (nI 0, q1.2) else (fn_fr_take [.inr (23, f), .inl (nI t)] q1.2).bind fun q2 => if q2.1 = nI 0 then some (nI 0, q2.2) else (fn_fr_push [.inr (23, f), .inl (nI t)] q2.2).bind fun q3 => if q3.1 = nI 0 then some (nI 0, q3.2) else some (nI 1, q3.2) := by
  rw [eq_ma_stepOnStack]
  simp only [nz_0, nz_1, nz_2, nz_5, nz_6, nz_7, nz_8, nz_10]
  have e0 : nI o - nI 10 = nI (o - 10) := pk_sub h1
  rw [if_neg (by rw [nI_eq (by omega) (by omega)]; omega), if_pos (by rw [nI_ltI (by omega) (by omega)]; omega), if_neg (by rw [nI_ltI (by omega) (by omega)]; omega), e0, nI_clamp (by omega), if_neg (by rw [nI_ltI (by omega) (by omega)]; omega)]
  simp only [← nz_0] at ht ⊢
  rw [ht]
theorem sc_width_m1 (M : zm_M) : fn_mf_widthOf [.inl (-nI 1)] M = some (nI 1, M) := by
  rw [eq_mf_widthOf]
  rfl
/-- the first of two that must be small -/
theorem on_small {M : zm_M} {f : Nat} {L T : List Nat} {b : Bool} {k : zm_M → Option (Int32 × zm_M)} {ok : Nat → List Nat → Option sp_F} (hw : wf_F (L, T, b)) (hk : ∀ x T', T = x :: T' → sp_sm x = true → st_R f M (k M) (ok x T')) : st_R f M ((fn_mf_isSmall [.inl (vz T[0]?)] M).bind fun q2 => if q2.1 = nI 0 then some (nI 0, q2.2) else k q2.2) (match T with
    | x :: T' => if sp_sm x then ok x T' else none
    | [] => none) := by
  rw [sc_small_v hw.2]
  simp only [Option.bind_some, bI_0]
  cases T with
  | nil => exact st_R.no zo_F.rf
  | cons x T =>
    simp only [List.getElem?_cons_zero, Option.any_some]
    rcases Bool.eq_false_or_eq_true (sp_sm x) with hs | hs
    · rw [if_neg (by rw [hs]; decide), if_pos hs]
      exact hk x T rfl hs
    · rw [if_pos hs, if_neg (by rw [hs]; decide)]
      exact st_R.no zo_F.rf
theorem st_onstack {P : sp_P} {M : zm_M} {f o : Nat} {F : sp_F} (h : rc_F M f F) (hw : wf_F F) (ho : o ≤ 13) : st_R f M (fn_ma_stepOnStack [.inr (17, 0), .inl (nI o), .inr (23, f)] M) ((sp_stk P o F).map fun T => (F.1, T, F.2.2)) := by
  obtain ⟨L, T, b⟩ := F
  rcases (show o = 0 ∨ (1 ≤ o ∧ o ≤ 5) ∨ o = 6 ∨ o = 7 ∨ o = 8 ∨ o = 9 ∨ o = 10 ∨ o = 11 ∨ o = 12 ∨ o = 13 by omega) with rfl | ho | rfl | rfl | rfl | rfl | rfl | rfl | rfl | rfl
  · rw [eq_ma_stepOnStack, nz_0, if_pos rfl]
    exact st_R.yes zo_F.rf h hw
  · have hs : sp_stk P o (L, T, b) = sp_psh o T := by
      rcases (show o = 1 ∨ o = 2 ∨ o = 3 ∨ o = 4 ∨ o = 5 by omega) with rfl | rfl | rfl | rfl | rfl <;> rfl
    rw [on_c ho.1 ho.2, hs]
    exact st_R.b (st_psh' zo_F.rf h hw (wt_k (by omega)))
  · rw [on_6, sc_peek h (by decide)]
    simp only [Option.bind_some]
    have := on_small (M := M) (f := f) (k := fun Q => (fn_ma_stepOne [.inr (17, 0), .inl (nI 6), .inl (vz T[0]?), .inr (23, f)] Q).bind fun q3 => if q3.1 = nI 0 ∨ q3.1 = nI 1 then some (q3.1, q3.2) else none) (ok := fun _ T => some (L, T, b)) hw (fun x T' e hx => by
      subst e
      exact st_R.b ((st_one h hw).2 rfl))
    cases T with
    | nil => exact this
    | cons x T =>
      dsimp only at this ⊢
      show st_R f M _ ((if sp_sm x then some T else none).map fun T => (L, T, b))
      split at this
      · next e => rw [if_pos e]; exact this
      · next e => rw [if_neg e]; exact this
  · rw [on_7, sc_peek h (by decide)]
    simp only [Option.bind_some]
    have := on_small (M := M) (f := f) (k := fun Q => (fn_ma_stepTwo [.inr (17, 0), .inl (nI 7), .inr (23, f)] Q).bind fun q3 => if q3.1 = nI 0 ∨ q3.1 = nI 1 then some (q3.1, q3.2) else none) (ok := fun _ T => match T with
      | y :: T => if sp_sm y then some (L, T, b) else none
      | [] => none) hw (fun x T' e hx => by
      subst e
      have q := st_R.b ((st_two h hw).2 rfl)
      cases T' with
      | nil => exact q
      | cons y T => exact q)
    cases T with
    | nil =>
      show st_R f M ((fn_mf_widthOf [.inl (-nI 1)] M).bind _) none
      rw [sc_width_m1]
      simp only [Option.bind_some]
      rw [if_neg (by decide)]
      exact this
    | cons x T =>
      have hx := sp_wt_lt (hw.2 x List.mem_cons_self)
      have hwd := sp_wd_le x
      show st_R f M ((fn_mf_widthOf [.inl (nI x)] M).bind _) ((if sp_wd x = 2 then some T else (match (generalizing := false) T with
          | y :: T => if sp_sm x && sp_sm y then some T else none
          | _ => none)).map fun T => (L, T, b))
      rw [sc_width (by omega)]
      simp only [Option.bind_some]
      by_cases e : sp_wd x = 2
      · obtain ⟨M1, q1, q2, q3⟩ := sc_drop h (by omega)
        rw [if_pos (by rw [e]), q1, if_pos e]
        exact st_R.yes q2 q3 (wf_tail hw)
      · rw [if_neg (by rw [nI_eq (by omega) (by omega)]; exact e), if_neg e]
        dsimp only at this ⊢
        cases T with
        | nil =>
          dsimp only at this ⊢
          rw [ite_self] at this
          exact this
        | cons y T =>
          dsimp only at this ⊢
          rcases Bool.eq_false_or_eq_true (sp_sm x) with hk | hk
          · rw [if_pos hk] at this
            rcases Bool.eq_false_or_eq_true (sp_sm y) with hk2 | hk2
            · rw [if_pos hk2] at this
              rw [hk, hk2]
              exact this
            · rw [if_neg (by rw [hk2]; decide)] at this
              rw [hk, hk2]
              exact this
          · rw [if_neg (by rw [hk]; decide)] at this
            rw [hk]
            exact this
  · rw [on_8, sc_peek h (by decide)]
    simp only [Option.bind_some]
    have := on_small (M := M) (f := f) (k := fun Q => (fn_ma_stepOne [.inr (17, 0), .inl (nI 8), .inl (vz T[0]?), .inr (23, f)] Q).bind fun q3 => if q3.1 = nI 0 ∨ q3.1 = nI 1 then some (q3.1, q3.2) else none) (ok := fun x T => (sp_psh x (x :: T)).map fun T => (L, T, b)) hw (fun x T' e hx => by
      subst e
      exact st_R.b ((st_one h hw).1 rfl))
    cases T with
    | nil => exact this
    | cons x T =>
      dsimp only at this ⊢
      show st_R f M _ ((if sp_sm x then sp_psh x (x :: T) else none).map fun T => (L, T, b))
      split at this
      · next e => rw [if_pos e]; exact this
      · next e => rw [if_neg e]; exact this
  · rw [on_9, sc_peek h (by decide)]
    simp only [Option.bind_some]
    have := on_small (M := M) (f := f) (k := fun Q => (fn_ma_stepTwo [.inr (17, 0), .inl (nI 9), .inr (23, f)] Q).bind fun q3 => if q3.1 = nI 0 ∨ q3.1 = nI 1 then some (q3.1, q3.2) else none) (ok := fun x T => match T with
      | y :: T => if sp_sm y then some (L, y :: x :: T, b) else none
      | [] => none) hw (fun x T' e hx => by
      subst e
      have q := st_R.b ((st_two h hw).1 rfl)
      cases T' with
      | nil => exact q
      | cons y T => exact q)
    cases T with
    | nil => exact this
    | cons x T =>
      cases T with
      | nil =>
        dsimp only at this ⊢
        rw [ite_self] at this
        exact this
      | cons y T =>
        dsimp only at this ⊢
        show st_R f M _ ((if sp_sm x && sp_sm y then some (y :: x :: T) else none).map fun T => (L, T, b))
        rcases Bool.eq_false_or_eq_true (sp_sm x) with hk | hk
        · rw [if_pos hk] at this
          rcases Bool.eq_false_or_eq_true (sp_sm y) with hk2 | hk2
          · rw [if_pos hk2] at this
            rw [hk, hk2]
            exact this
          · rw [if_neg (by rw [hk2]; decide)] at this
            rw [hk, hk2]
            exact this
        · rw [if_neg (by rw [hk]; decide)] at this
          rw [hk]
          exact this
  · rw [on_s (t := 1) (by decide) (by decide) (by decide)]
    exact st_sum h hw (by decide)
  · rw [on_s (t := 4) (by decide) (by decide) (by decide)]
    exact st_sum h hw (by decide)
  · rw [on_s (t := 2) (by decide) (by decide) (by decide)]
    exact st_sum h hw (by decide)
  · rw [on_s (t := 3) (by decide) (by decide) (by decide)]
    exact st_sum h hw (by decide)
