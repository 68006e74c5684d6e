/-! flow, make -/
theorem wh_some {P : sp_P} {A : af_A} (h : sp_whole P A = true) {k : Nat} (hk : k < pg_n P) : ∃ F, A k = some F := by
  unfold sp_whole at h
  rw [Bool.and_eq_true, List.all_eq_true] at h
  have := h.1 k (by rw [List.mem_range'_1]; omega)
  unfold sp_wp at this
  cases hA : A k with
  | none =>
    rw [hA] at this
    cases this
  | some F => exact ⟨F, rfl⟩
theorem zo_R.H {M M' : zm_M} (h : zo_R M M') : zo_H M M' := fun s hs => funext fun i => funext fun k => h s i k (by omega)
theorem zo_R.c {P : sp_P} {B : List Nat} {M M' : zm_M} (h : zo_R M M') {b : Bool} (hk : fl_kn P M' b) (hc : ivc P B M) : ivc P B M' := by
  obtain ⟨h1, h2, h3, h4, h5⟩ := hc
  have hfr : ∀ r F, r < 50 → rc_F M (50 + r) F → rc_F M' (50 + r) F := fun r F hr hF => hF.kept (funext fun k => h 23 _ k (by omega)) (funext fun k => h 24 _ k (by omega)) (funext fun k => h 25 _ k (by omega))
  refine ⟨h1.kept fun s hs => funext fun i => funext fun k => h s i k (by omega), h2.kept (funext fun k => h 15 0 k (by omega)) (funext fun k => h 16 0 k (by omega)), Or.inr ⟨b, hk⟩, ?_, ?_⟩
  · rw [h 29 0 9 (by omega)]
    rcases h4 with q | ⟨q1, q2, q3⟩
    · exact Or.inl q
    · refine Or.inr ⟨by rw [h 29 0 9 (by omega)]; exact q1, by rw [h 29 0 10 (by omega)]; exact q2, fun R hR => ?_⟩
      obtain ⟨r1, r2, r3, r4⟩ := q3 R hR
      refine ⟨r1, by rw [h 29 0 8 (by omega)]; exact r2, ?_, fun p hp => by rw [h 33 0 p (by omega)]; exact r4 p hp⟩
      intro i hi
      obtain ⟨a, b, c, d⟩ := r3 i hi
      exact ⟨by rw [h 31 0 i (by omega)]; exact a, by rw [h 32 0 i (by omega)]; exact b, hfr i _ (by omega) c, d⟩
  · intro r hr
    obtain ⟨F, hF⟩ := h5 r hr
    exact ⟨F, hfr r F hr hF⟩
theorem zo_B.O' {M M' : zm_M} (h : zo_B M M') : zo_O M M' := fun s hs => funext fun i => funext fun k => h s i k (by omega) (by omega)
theorem zo_B.m {P : sp_P} {B : List Nat} {M M' : zm_M} (h : zo_B M M') (hm : ivm P B M) : ivm P B M' := ⟨hm.1.kept (fun s q1 q2 => funext fun i => funext fun k => h s i k (by omega) (by omega)) (fun k hk => h 35 0 k (by omega) (by omega)), by rw [h 35 0 7 (by omega) (by omega)]; exact hm.2.1, fun i hi => by rw [h 46 0 i (by omega) (by omega)]; exact hm.2.2 i hi⟩
/-- the reference tells of a PLACE -/
theorem sm_ftell {M : zm_M} {k w : Nat} {F : sp_F} (hk : k < 50) (hw : w < 18 ∨ (20 ≤ w ∧ w ≤ 21)) (h : rm_G M k F) (h8 : F.2.1.length ≤ 8) : (if nI w < nI 10 then if nI 10 * nI k + nI w < nI 0 ∨ 500 ≤ (nI 10 * nI k + nI w).toNatClampNeg then none else some (M 52 0 (nI 10 * nI k + nI w).toNatClampNeg, M) else if nI w < nI 18 then if nI k < nI 0 ∨ 50 ≤ (nI k).toNatClampNeg then none else if nI w - nI 10 < M 51 0 (nI k).toNatClampNeg then if nI 8 * nI k + nI w - nI 10 < nI 0 ∨ 400 ≤ (nI 8 * nI k + nI w - nI 10).toNatClampNeg then none else some (M 53 0 (nI 8 * nI k + nI w - nI 10).toNatClampNeg, M) else some (-nI 2, M) else if nI w = nI 20 then if nI k < nI 0 ∨ 50 ≤ (nI k).toNatClampNeg then none else some (M 51 0 (nI k).toNatClampNeg, M) else if nI k < nI 0 ∨ 50 ≤ (nI k).toNatClampNeg then none else if M 50 0 (nI k).toNatClampNeg = nI 0 then some (nI 0, M) else some (nI 1, M)) = some (sp_tell F w, M) := by
  obtain ⟨w3, w4, w5, w6, w7⟩ := h
  rw [nI_clamp (show k < 2 ^ 31 by omega)]
  simp only [if_neg (ni_in hk (show k < 2 ^ 31 by omega)), pk_mul, nI_add]
  rw [w5, w7]
  unfold sp_tell
  by_cases e1 : w < 10
  · rw [if_pos (ni_lt e1 (by omega) (by omega)), if_pos e1, nI_clamp (by omega), if_neg (ni_in (show 10 * k + w < 500 by omega) (by omega))]
    have := w4 w e1
    dsimp only at this
    rw [this]
  · rw [if_neg (ni_nl (by omega) (by omega) (by omega)), if_neg e1]
    by_cases e2 : w < 18
    · rw [if_pos (ni_lt e2 (by omega) (by omega)), if_pos e2, pk_sub (by omega), pk_sub (show 10 ≤ 8 * k + w by omega)]
      by_cases e3 : w - 10 < F.2.1.length
      · have := w6 (w - 10) e3
        dsimp only at this
        rw [if_pos (ni_lt e3 (by omega) (by omega)), if_pos e3, nI_clamp (by omega), if_neg (ni_in (show 8 * k + w - 10 < 400 by omega) (by omega)), show 8 * k + w - 10 = 8 * k + (w - 10) by omega, this]
      · rw [if_neg (ni_nl (by omega) (by omega) (by omega)), if_neg e3]
    · rw [if_neg (ni_nl (by omega) (by omega) (by omega)), if_neg e2]
      by_cases e20 : w = 20
      · rw [if_pos (by rw [e20]), if_pos e20]
      · rw [if_neg (ni_ne e20 (by omega) (by omega)), if_neg e20]
        cases F.2.2 <;> rfl
theorem sm_flow {P : sp_P} {B : List Nat} {M : zm_M} {x : Int32} {w : Nat} (hwP : wf_P P) (hm : ivm P B M) (hw : w < 18 ∨ (20 ≤ w ∧ w ≤ 21)) : ∃ v M', fn_mo_flow [.inr (35, 0), .inl x, .inl (nI w)] M = some (v, M') ∧ zo_B M M' ∧ (¬ (∃ k, k < pg_n P ∧ x = nI k) ∨ ¬ sp_right P → v = -nI 2) ∧ ∀ k A F, k < pg_n P → x = nI k → af_least P A → sp_whole P A = true → A k = some F → v = sp_tell F w := by
  have h50 := hwP.n
  obtain ⟨M1, b, a1, a2, a3, a4⟩ := sm_isRight hwP hm.1
  have hm1 := a2.m hm
  have red : ∃ v, (if bI b = nI 0 then some (-nI 2, M1) else (fn_mo_in [.inl x, .inl (nI 0), .inl ((M1 35 0 5) - nI 1)] M1).bind fun q3 => if q3.1 = nI 0 then some (-nI 2, q3.2) else if nI w < nI 10 then if nI 10 * x + nI w < nI 0 ∨ 500 ≤ (nI 10 * x + nI w).toNatClampNeg then none else some (q3.2 52 0 (nI 10 * x + nI w).toNatClampNeg, q3.2) else if nI w < nI 18 then if x < nI 0 ∨ 50 ≤ x.toNatClampNeg then none else if nI w - nI 10 < q3.2 51 0 x.toNatClampNeg then if nI 8 * x + nI w - nI 10 < nI 0 ∨ 400 ≤ (nI 8 * x + nI w - nI 10).toNatClampNeg then none else some (q3.2 53 0 (nI 8 * x + nI w - nI 10).toNatClampNeg, q3.2) else some (-nI 2, q3.2) else if nI w = nI 20 then if x < nI 0 ∨ 50 ≤ x.toNatClampNeg then none else some (q3.2 51 0 x.toNatClampNeg, q3.2) else if x < nI 0 ∨ 50 ≤ x.toNatClampNeg then none else if q3.2 50 0 x.toNatClampNeg = nI 0 then some (nI 0, q3.2) else some (nI 1, q3.2)) = some (v, M1) ∧ (¬ (∃ k, k < pg_n P ∧ x = nI k) ∨ ¬ sp_right P → v = -nI 2) ∧ ∀ k A F, k < pg_n P → x = nI k → af_least P A → sp_whole P A = true → A k = some F → v = sp_tell F w := by
    simp only [bI_0]
    cases b with
    | false =>
      rw [if_pos rfl]
      refine ⟨_, rfl, fun _ => rfl, ?_⟩
      intro k A F hk hx hA hwh hF
      have := a3.mpr ⟨A, hA, hwh⟩
      cases this
    | true =>
      have hr : sp_right P := a3.mp rfl
      rw [if_neg (by decide), hm1.1.n]
      rcases i_cs x with h | ⟨k, hk, rfl⟩
      · rw [so_inn h, Option.bind_some, if_pos rfl]
        refine ⟨_, rfl, fun _ => rfl, ?_⟩
        intro k A F hk hx
        rw [hx] at h
        exact absurd h (ni_nl (by omega) (by omega) (by omega))
      · rw [so_in1b hk (by omega), Option.bind_some]
        simp only [bI_0]
        by_cases e : k < pg_n P
        · obtain ⟨A, hA, hwh⟩ := id hr
          obtain ⟨F, hF⟩ := wh_some hwh e
          have h8 : F.2.1.length ≤ 8 := Nat.le_trans (sp_sl_len _) (hA.1.1 k F hF).2.2
          have := sm_ftell (show k < 50 by omega) hw ((a4 rfl A hA k (by omega)).2 F hF) h8
          rw [if_neg (by rw [decide_eq_true e]; decide), this]
          refine ⟨_, rfl, ?_, ?_⟩
          · rintro (q | q)
            · exact absurd ⟨k, e, rfl⟩ q
            · exact absurd hr q
          · intro k' A' F' hk' hx hA' hwh' hF'
            have hkk : k = k' := (nI_eq hk (by omega)).mp hx
            subst hkk
            have this' := sm_ftell (show k < 50 by omega) hw ((a4 rfl A' hA' k (by omega)).2 F' hF') (Nat.le_trans (sp_sl_len _) (hA'.1.1 k F' hF').2.2)
            exact (Prod.mk.inj (Option.some.inj (this.symm.trans this'))).1
        · rw [if_pos (decide_eq_false e)]
          refine ⟨_, rfl, fun _ => rfl, ?_⟩
          intro k' A' F' hk' hx
          have hkk : k = k' := (nI_eq hk (by omega)).mp hx
          omega
  obtain ⟨v, r1, r2, r3⟩ := red
  refine ⟨v, M1, ?_, a2, r2, r3⟩
  rw [eq_mo_flow]
  simp only [nz_0, nz_1, nz_2, nz_3, nz_4, nz_5, nz_6, nz_7, nz_8, nz_9, nz_10, nz_11, nz_12, nz_13, nz_14, nz_15, nz_16, nz_17, nz_18, nz_19, nz_20, nz_21, nz_22, nz_23, nz_24, nz_25, nz_26, nz_27, nz_28, nz_29, nz_30, nz_31, nz_32, nz_33, nz_34, nz_35, nz_36, nz_37, nz_38, nz_39, nz_40, nz_41, nz_42, nz_43, nz_44, nz_45, nz_46, nz_47, nz_48, nz_49, nz_50, nz_51, nz_63, nz_64, nz_66, nz_127, nz_128, nz_246, nz_247, nz_248, nz_250, nz_251, nz_252, nz_254, nz_255, nz_256, nz_400, nz_2500]
  by_cases e : w < 18
  · rw [so_in (by omega) (by omega) (by omega), Option.bind_some, if_neg (by rw [decide_eq_true (Nat.zero_le w), decide_eq_true (show w ≤ 17 by omega)]; exact (by decide : ¬ bI (true && true) = nI 0)), a1, Option.bind_some]
    exact r1
  · rw [so_in (by omega) (by omega) (by omega), Option.bind_some, if_pos (by rw [decide_eq_false (show ¬ w ≤ 17 by omega), Bool.and_false]; rfl), so_in (by omega) (by omega) (by omega), Option.bind_some, if_neg (by rw [decide_eq_true (show 20 ≤ w by omega), decide_eq_true (show w ≤ 21 by omega)]; exact (by decide : ¬ bI (true && true) = nI 0)), a1, Option.bind_some]
    exact r1
theorem sc_flow {P : sp_P} {B : List Nat} {M : zm_M} {x : Int32} {w : Nat} (hwP : wf_P P) (hc : ivc P B M) (hw : w < 18 ∨ (20 ≤ w ∧ w ≤ 21)) : ∃ v M', fn_mf_flow [.inr (0, 0), .inl x, .inl (nI w)] M = some (v, M') ∧ zo_H M M' ∧ ivc P B M' ∧ (¬ (∃ k, k < pg_n P ∧ x = nI k) ∨ ¬ sp_right P → v = -nI 2) ∧ ∀ k A F, k < pg_n P → x = nI k → af_least P A → sp_whole P A = true → A k = some F → v = sp_tell F w := by
  have h50 := hwP.n
  have c9 : M 5 0 9 = nI (pg_n P) := hc.1.2.2.2.2.2.2.1
  rw [eq_mf_flow, nz_21, sc_isQ (by omega) (by decide), Option.bind_some, decide_eq_true hw]
  simp only [nz_0, nz_1, nz_2, nz_3, nz_4, nz_5, nz_6, nz_7, nz_8, nz_9, nz_10, nz_11, nz_12, nz_13, nz_14, nz_15, nz_16, nz_17, nz_18, nz_19, nz_20, nz_21, nz_22, nz_23, nz_24, nz_25, nz_26, nz_27, nz_28, nz_29, nz_30, nz_31, nz_32, nz_33, nz_34, nz_35, nz_36, nz_37, nz_38, nz_39, nz_40, nz_41, nz_42, nz_43, nz_44, nz_45, nz_46, nz_47, nz_48, nz_49, nz_50, nz_51, nz_63, nz_64, nz_66, nz_127, nz_128, nz_246, nz_247, nz_248, nz_250, nz_251, nz_252, nz_254, nz_255, nz_256, nz_400, nz_2500]
  rw [if_neg (show ¬ bI true = nI 0 by decide)]
  rcases i_cs x with h | ⟨k, hk, rfl⟩
  · rw [if_pos h]
    refine ⟨_, M, rfl, zo_H.rf, hc, fun _ => rfl, ?_⟩
    intro k A F hk hx
    rw [hx] at h
    exact absurd h (ni_nl (by omega) (by omega) (by omega))
  · rw [if_neg (ni_nl (by omega) hk (by omega)), c9]
    by_cases e : k < pg_n P
    · obtain ⟨M1, b, a1, a2, a3⟩ := sc_isRight hwP hc.1 hc.2.2.1
      rw [if_pos (ni_lt e hk (by omega)), a1, Option.bind_some]
      simp only [bI_0]
      cases b with
      | false =>
        rw [if_pos rfl]
        refine ⟨_, M1, rfl, a2.H, a2.c a3 hc, fun _ => rfl, ?_⟩
        intro k' A F hk' hx hA hwh hF
        have := a3.2.2.1.mpr ⟨A, hA, hwh⟩
        cases this
      | true =>
        have hr : sp_right P := a3.2.2.1.mp rfl
        obtain ⟨A, hA, hwh⟩ := id hr
        obtain ⟨F, hF⟩ := wh_some hwh e
        have tl := sc_tell (w := w) ((a3.2.2.2 rfl A hA).1 k F hF) (by omega)
        rw [if_neg (by decide), nI_clamp hk, if_neg (ni_in (show k < 50 by omega) hk), tl, Option.bind_some]
        refine ⟨_, M1, rfl, a2.H, a2.c a3 hc, ?_, ?_⟩
        · rintro (q | q)
          · exact absurd ⟨k, e, rfl⟩ q
          · exact absurd hr q
        · intro k' A' F' hk' hx hA' hwh' hF'
          have hkk : k = k' := (nI_eq hk (by omega)).mp hx
          subst hkk
          have tl' := sc_tell (w := w) ((a3.2.2.2 rfl A' hA').1 k F' hF') (by omega)
          exact (Prod.mk.inj (Option.some.inj (tl.symm.trans tl'))).1
    · rw [if_neg (ni_nl (by omega) hk (by omega))]
      refine ⟨_, M, rfl, zo_H.rf, hc, fun _ => rfl, ?_⟩
      intro k' A' F' hk' hx
      have hkk : k = k' := (nI_eq hk (by omega)).mp hx
      omega
theorem cl_flow {P : sp_P} {B : List Nat} {M : zm_M} (hi : iv P B M) (x y : Int32) : cl (fn_mf_flow [.inr (0, 0), .inl x, .inl y]) (fn_mo_flow [.inr (35, 0), .inl x, .inl y]) M := by
  obtain ⟨hW, hc, hm⟩ := id hi
  obtain ⟨hw, hl, hb⟩ := id hW
  rcases i_cs y with h | ⟨w, hwk, rfl⟩
  · refine cl_same hi (v := -nI 1) ?_ ?_
    · rw [eq_mf_flow, nz_21, sc_isQn h, Option.bind_some, nz_0, if_pos rfl, nz_1]
    · rw [eq_mo_flow]
      simp only [nz_0, nz_1, nz_2, nz_3, nz_4, nz_5, nz_6, nz_7, nz_8, nz_9, nz_10, nz_11, nz_12, nz_13, nz_14, nz_15, nz_16, nz_17, nz_18, nz_19, nz_20, nz_21, nz_22, nz_23, nz_24, nz_25, nz_26, nz_27, nz_28, nz_29, nz_30, nz_31, nz_32, nz_33, nz_34, nz_35, nz_36, nz_37, nz_38, nz_39, nz_40, nz_41, nz_42, nz_43, nz_44, nz_45, nz_46, nz_47, nz_48, nz_49, nz_50, nz_51, nz_63, nz_64, nz_66, nz_127, nz_128, nz_246, nz_247, nz_248, nz_250, nz_251, nz_252, nz_254, nz_255, nz_256, nz_400, nz_2500]
      rw [so_inn h, Option.bind_some, if_pos rfl, so_inn (ng_lt h (by decide)), Option.bind_some, if_pos rfl]
  by_cases e : w < 18 ∨ (20 ≤ w ∧ w ≤ 21)
  rotate_left
  · refine cl_same hi (v := -nI 1) ?_ ?_
    · rw [eq_mf_flow, nz_21, sc_isQ hwk (by decide), Option.bind_some, nz_0, decide_eq_false e, if_pos (show bI false = nI 0 from rfl), nz_1]
    · rw [eq_mo_flow]
      simp only [nz_0, nz_1, nz_2, nz_3, nz_4, nz_5, nz_6, nz_7, nz_8, nz_9, nz_10, nz_11, nz_12, nz_13, nz_14, nz_15, nz_16, nz_17, nz_18, nz_19, nz_20, nz_21, nz_22, nz_23, nz_24, nz_25, nz_26, nz_27, nz_28, nz_29, nz_30, nz_31, nz_32, nz_33, nz_34, nz_35, nz_36, nz_37, nz_38, nz_39, nz_40, nz_41, nz_42, nz_43, nz_44, nz_45, nz_46, nz_47, nz_48, nz_49, nz_50, nz_51, nz_63, nz_64, nz_66, nz_127, nz_128, nz_246, nz_247, nz_248, nz_250, nz_251, nz_252, nz_254, nz_255, nz_256, nz_400, nz_2500]
      rw [so_in hwk (by omega) (by omega), Option.bind_some, if_pos (by rw [decide_eq_false (show ¬ w ≤ 17 by omega), Bool.and_false]; rfl), so_in hwk (by omega) (by omega), Option.bind_some, if_pos (by
        by_cases e2 : 20 ≤ w
        · rw [decide_eq_false (show ¬ w ≤ 21 by omega), Bool.and_false]
          rfl
        · rw [decide_eq_false e2, Bool.false_and]
          rfl)]
  obtain ⟨v, M1, a1, a2, a3, a4, a5⟩ := sc_flow (x := x) hw hc e
  have hm1 := a2.m hm
  obtain ⟨v', M2, b1, b2, b4, b5⟩ := sm_flow (x := x) hw hm1 e
  have hv : v = v' := by
    by_cases h1 : (∃ k, k < pg_n P ∧ x = nI k) ∧ sp_right P
    · obtain ⟨⟨k, hk, hx⟩, A, hA, hwh⟩ := h1
      obtain ⟨F, hF⟩ := wh_some hwh hk
      rw [a5 k A F hk hx hA hwh hF, b5 k A F hk hx hA hwh hF]
    · have h2 : ¬ (∃ k, k < pg_n P ∧ x = nI k) ∨ ¬ sp_right P := Classical.not_and_iff_not_or_not.mp h1
      rw [a4 h2, b4 h2]
  subst hv
  exact cl_mk a1 a2 b1 b2.O' hW a3 (b2.m hm1)
theorem two_lt (v : Nat) : ∀ x ∈ sp_two v, x < 256 := by
  intro x hx
  unfold sp_two at hx
  rw [List.mem_cons, List.mem_singleton] at hx
  omega
theorem tb_lt (t : Nat) : ∀ x ∈ sp_tb t, x < 256 := by
  intro x hx
  unfold sp_tb at hx
  have : sp_kd t < 16 := Nat.mod_lt _ (by decide)
  split at hx
  · rcases List.mem_cons.mp hx with rfl | hx
    · omega
    · exact two_lt _ x hx
  · rw [List.mem_singleton] at hx
    omega
theorem tbs_lt (X : List Nat) : ∀ x ∈ sp_tbs X, x < 256 := by
  intro x hx
  unfold sp_tbs at hx
  obtain ⟨t, -, ht⟩ := List.mem_flatMap.mp hx
  exact tb_lt t x ht
theorem rb_lt (Y X T : List Nat) (d : Nat) : ∀ x ∈ sp_rb Y X T d, x < 256 := by
  intro x hx
  unfold sp_rb at hx
  split at hx
  · split at hx
    · rw [List.mem_singleton] at hx
      omega
    · rcases List.mem_cons.mp hx with rfl | hx
      · decide
      · exact two_lt _ x hx
  · split at hx
    · rcases List.mem_append.mp hx with hx | hx
      · split at hx
        · rw [List.mem_singleton] at hx
          omega
        · rcases List.mem_cons.mp hx with rfl | hx
          · decide
          · exact two_lt _ x hx
      · exact tbs_lt _ x hx
    · split at hx
      · next h3 =>
        rcases List.mem_cons.mp hx with rfl | hx
        · omega
        · rcases List.mem_append.mp hx with hx | hx
          · exact two_lt _ x hx
          · exact tbs_lt _ x hx
      · rcases List.mem_cons.mp hx with rfl | hx
        · decide
        · rcases List.mem_append.mp hx with hx | hx
          · exact two_lt _ x hx
          · rcases List.mem_append.mp hx with hx | hx
            · exact two_lt _ x hx
            · rcases List.mem_append.mp hx with hx | hx
              · exact tbs_lt _ x hx
              · rcases List.mem_append.mp hx with hx | hx
                · exact two_lt _ x hx
                · exact tbs_lt _ x hx
theorem mr_lt (P : sp_P) (B : af_A) : ∀ (k p : Nat) (Y : List Nat) (l : Nat), ∀ x ∈ (sp_mr P B k p Y l).1, x < 256 := by
  intro k
  induction k with
  | zero =>
    intro p Y l x hx
    cases hx
  | succ k ih =>
    intro p Y l x hx
    unfold sp_mr at hx
    split at hx
    · split at hx
      · rcases List.mem_append.mp hx with hx | hx
        · exact rb_lt _ _ _ _ x hx
        · exact ih _ _ _ x hx
      · cases hx
    · exact ih _ _ _ x hx
theorem cl_make {P : sp_P} {B : List Nat} {M : zm_M} (hi : iv P B M) : cl (fn_mf_make [.inr (0, 0)]) (fn_mo_make [.inr (35, 0)]) M := by
  obtain ⟨hW, hc, hm⟩ := id hi
  obtain ⟨hw, hl, hb⟩ := id hW
  have h50 := hw.n
  obtain ⟨M1, v, a1, a2, a3, a4, a5, a6, a7⟩ := sc_make hw hc.1 hc.2.2.1
  have z1 : zo_H M M1 := a2
  have hm1 := z1.m hm
  obtain ⟨M2, v', b1, b2, b3, b4, b5⟩ := sm_make hw hm1.1
  have hfr : ∀ r F, r < 50 → rc_F M (50 + r) F → rc_F M1 (50 + r) F := fun r F hr hF => hF.kept (funext fun k => a3 23 _ k (by omega)) (funext fun k => a3 24 _ k (by omega)) (funext fun k => a3 25 _ k (by omega))
  have hfo : fr_ok M1 := fun r hr => by
    obtain ⟨F, hF⟩ := hc.2.2.2.2 r hr
    exact ⟨F, hfr r F hr hF⟩
  have same : M1 15 0 = M 15 0 → M1 16 0 = M 16 0 → M1 29 = M 29 → ivc P B M1 := by
    intro e15 e16 e29
    refine ⟨a4, hc.2.1.kept e15 e16, Or.inr a5, ?_, hfo⟩
    rw [e29]
    rcases hc.2.2.2.1 with q | ⟨q1, q2, q3⟩
    · exact Or.inl q
    · refine Or.inr ⟨by rw [e29]; exact q1, by rw [e29]; exact q2, fun R hR => ?_⟩
      obtain ⟨r1, r2, r3, r4⟩ := q3 R hR
      refine ⟨r1, by rw [e29]; exact r2, ?_, fun p hp => by rw [a3 33 0 p (by omega)]; exact r4 p hp⟩
      intro i hi
      obtain ⟨a, b, c, d⟩ := r3 i hi
      exact ⟨by rw [a3 31 0 i (by omega)]; exact a, by rw [a3 32 0 i (by omega)]; exact b, hfr i _ (by omega) c, d⟩
  have samem : M2 46 = M1 46 → M2 35 0 7 = M1 35 0 7 → ivm P B M2 := by
    intro e46 e7
    exact ⟨b3, by rw [e7]; exact hm1.2.1, by rw [e46]; exact hm1.2.2⟩
  by_cases hr : sp_right P
  · obtain ⟨A, hA, hwh⟩ := hr
    obtain ⟨c1, c2⟩ := a7 A hA hwh
    obtain ⟨d1, d2⟩ := b5 A hA hwh
    by_cases e : 400 < (sp_made P A).1.length
    · obtain ⟨e1, e2, e3, e4⟩ := c1 e
      obtain ⟨f1, f2, f3⟩ := d1 e
      subst e1 f1
      exact cl_mk a1 z1 b1 b2 hW (same e2 e3 e4) (samem f2 f3)
    · obtain ⟨e1, e2, e3⟩ := c2 (by omega)
      obtain ⟨f1, f2⟩ := d2 (by omega)
      subst e1 f1
      exact cl_mk a1 z1 b1 b2 (P' := P) (B' := (sp_made P A).1) ⟨hw, by omega, mr_lt _ _ _ _ _ _⟩ ⟨a4, e2, Or.inr a5, Or.inl e3, hfo⟩ ⟨b3, f2⟩
  · obtain ⟨e1, e2, e3, e4⟩ := a6 hr
    obtain ⟨f1, f2, f3⟩ := b4 hr
    subst e1 f1
    exact cl_mk a1 z1 b1 b2 hW (same e2 e3 e4) (samem f2 f3)
