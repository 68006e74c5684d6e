/-! THE CHECK: the reference, all places -/
def sp_check (P : sp_P) (B : List Nat) : Int32 := if pg_n P = 0 then -nI 4 else match sp_rows P B with
  | none => -nI 5
  | some R => sp_ckf P R (pg_n P) 0 true (sp_fst P)
/-- from 76 on: the FRAME of the row is taken -/
theorem so_ck76 {P : sp_P} (hwP : wf_P P) {R : List sp_W} (hb : ok_R P R) {p n : Nat} (hp : p < pg_n P) {M : zm_M} {F : sp_F} {o : Bool} {v1 : Int32} {o5 : Option zm_V} (hP : rm_P P M) (hR : rm_R M R) (hF : o = true → rm_F M F ∧ wf_F F) {F1 : sp_F} (hbg : sp_bg P R p o F = some F1) : ∃ M', rr_mo_check (n + 1) 76 [some (.inr (35, 0)), some (.inl v1), some (.inl (bI o)), some (.inl (nI p)), some (.inl (vz (sp_rx P R p))), o5] [] M = rr_mo_check (n + 1) 87 [some (.inr (35, 0)), some (.inl v1), some (.inl (bI o)), some (.inl (nI p)), some (.inl (vz (sp_rx P R p))), o5] [] M' ∧ zo_M M M' ∧ rm_F M' F1 ∧ wf_F F1 := by
  rw [eq_mo_check_76]
  simp only [nz_0, nz_1, nz_2, nz_3, nz_4, nz_5, nz_6, nz_7, nz_8, nz_9, nz_10, nz_11, nz_12, nz_13, nz_14, nz_15, nz_16, nz_17, nz_18, nz_19, nz_20, nz_21, nz_22, nz_23, nz_24, nz_25, nz_26, nz_27, nz_28, nz_29, nz_30, nz_31, nz_32, nz_33, nz_34, nz_35, nz_36, nz_37, nz_38, nz_39, nz_40, nz_41, nz_42, nz_43, nz_44, nz_45, nz_46, nz_47, nz_48, nz_49, nz_50, nz_51, nz_63, nz_64, nz_66, nz_127, nz_128, nz_246, nz_247, nz_248, nz_250, nz_251, nz_252, nz_254, nz_255, nz_256, nz_400, nz_2500]
  unfold sp_bg at hbg
  cases hx : sp_rx P R p with
  | none =>
    rw [hx] at hbg
    dsimp only at hbg
    cases o with
    | false => cases hbg
    | true =>
      cases hbg
      rw [if_pos (show vz none < nI 0 by decide)]
      exact ⟨M, rfl, zo_M.rf, hF rfl⟩
  | some r =>
    rw [hx] at hbg
    dsimp only at hbg
    obtain ⟨hr, -⟩ := rx_lt hx
    have hr50 := hR.1
    have hF1 : (R.getD r wz).2.2 = F1 := by
      split at hbg
      · cases hbg
      · exact Option.some.inj hbg
    obtain ⟨M1, a1, a2, a3⟩ := sm_take (show r < 50 by omega) (hR.2.2 r hr) (rm_gd hb hr)
    rw [show vz (some r) = nI r from rfl, if_neg (ni_nl (by omega) (by omega) (by omega)), a1, Option.bind_some]
    rw [hF1] at a3
    refine ⟨M1, rfl, a2, a3, ?_⟩
    rw [← hF1]
    exact (hR.2.2 r hr).2.2.2.2
theorem so_ck_lp {P : sp_P} (hwP : wf_P P) {R : List sp_W} (hb : ok_R P R) : ∀ (k p n : Nat) (M : zm_M) (o : Bool) (F : sp_F) (v1 : Int32) (o4 o5 : Option zm_V), p + k = pg_n P → k < n → rm_P P M → rm_R M R → (o = true → rm_F M F ∧ wf_F F) → ∃ M', rr_mo_check n 30 [some (.inr (35, 0)), some (.inl v1), some (.inl (bI o)), some (.inl (nI p)), o4, o5] [] M = some (sp_ckf P R k p o F, M') ∧ zo_M M M' := by
  have h50 := hwP.n
  intro k
  induction k with
  | zero =>
    intro p n M o F v1 o4 o5 hk hn hP hR hF
    obtain ⟨n, rfl⟩ : ∃ q, n = q + 1 := ⟨n - 1, by omega⟩
    rw [eq_mo_check_30, hP.n, if_neg (ni_nl (by omega) (by omega) (by omega)), nz_0, nz_2, eq_mo_check_187, eq_mo_check_187]
    cases o with
    | false => exact ⟨M, rfl, zo_M.rf⟩
    | true => exact ⟨M, rfl, zo_M.rf⟩
  | succ k ih =>
    intro p n M o F v1 o4 o5 hk hn hP hR hF
    obtain ⟨n, rfl⟩ : ∃ q, n = q + 1 := ⟨n - 1, by omega⟩
    have hp : p < pg_n P := by omega
    have hI := wf_at hwP hp
    have h40 : pg_op P p < 40 := hI.1
    have hsp : sp_ckf P R (k + 1) p o F = match sp_ck1 P R p o F with
      | none => nI p
      | some F' => sp_ckf P R k (p + 1) (!sp_end (pg_op P p)) F' := rfl
    rw [hsp]
    unfold sp_ck1
    -- the row
    have h30 : rr_mo_check (n + 1) 30 [some (.inr (35, 0)), some (.inl v1), some (.inl (bI o)), some (.inl (nI p)), o4, o5] [] M = if (sp_bg P R p o F).isSome then rr_mo_check (n + 1) 76 [some (.inr (35, 0)), some (.inl v1), some (.inl (bI o)), some (.inl (nI p)), some (.inl (vz (sp_rx P R p))), o5] [] M else some (nI p, M) := by
      rw [eq_mo_check_30, hP.n, if_pos (ni_lt hp (by omega) (by omega)), so_offset hwP hP (by omega), Option.bind_some, so_rowAt2 hwP hR hp hb, Option.bind_some]
      simp only [nz_0, nz_1, nz_2, nz_3, nz_4, nz_5, nz_6, nz_7, nz_8, nz_9, nz_10, nz_11, nz_12, nz_13, nz_14, nz_15, nz_16, nz_17, nz_18, nz_19, nz_20, nz_21, nz_22, nz_23, nz_24, nz_25, nz_26, nz_27, nz_28, nz_29, nz_30, nz_31, nz_32, nz_33, nz_34, nz_35, nz_36, nz_37, nz_38, nz_39, nz_40, nz_41, nz_42, nz_43, nz_44, nz_45, nz_46, nz_47, nz_48, nz_49, nz_50, nz_51, nz_63, nz_64, nz_66, nz_127, nz_128, nz_246, nz_247, nz_248, nz_250, nz_251, nz_252, nz_254, nz_255, nz_256, nz_400, nz_2500, bI_0, eq_mo_check_74]
      unfold sp_bg
      cases hx : sp_rx P R p with
      | none =>
        rw [if_pos (show vz none < nI 0 by decide)]
        cases o with
        | false => rfl
        | true => rfl
      | some r =>
        obtain ⟨hr, -⟩ := rx_lt hx
        have hr50 := hR.1
        rw [show vz (some r) = nI r from rfl, if_neg (ni_nl (by omega) (by omega) (by omega))]
        cases o with
        | false => rfl
        | true =>
          obtain ⟨hF1, wF1⟩ := hF rfl
          rw [if_neg (by decide), so_fits hwP hP (by omega) hF1 (hR.2.2 r hr) (rm_gd hb hr) wF1, Option.bind_some]
          simp only [bI_0]
          rcases Bool.eq_false_or_eq_true (sp_fits P F (R.getD r wz).2.2) with e | e
          · rw [if_neg (by rw [e]; decide)]
            simp only [e]
            rfl
          · rw [if_pos e]
            simp only [e]
            rfl
    rw [h30]
    cases hbg : sp_bg P R p o F with
    | none => exact ⟨M, rfl, zo_M.rf⟩
    | some F1 =>
      obtain ⟨M1, a1, a2, hF1, wF1⟩ := so_ck76 hwP hb (n := n) (v1 := v1) (o5 := o5) hp hP hR hF hbg
      have hP1 := a2.P hP
      have hR1 := a2.R hR
      rw [if_pos (by rfl), a1, eq_mo_check_87, so_handled hwP (show p < 50 by omega) wF1 hP1 hR1 hb hF1, Option.bind_some, Option.bind_some]
      simp only [nz_0, nz_1, nz_2, nz_3, nz_4, nz_5, nz_6, nz_7, nz_8, nz_9, nz_10, nz_11, nz_12, nz_13, nz_14, nz_15, nz_16, nz_17, nz_18, nz_19, nz_20, nz_21, nz_22, nz_23, nz_24, nz_25, nz_26, nz_27, nz_28, nz_29, nz_30, nz_31, nz_32, nz_33, nz_34, nz_35, nz_36, nz_37, nz_38, nz_39, nz_40, nz_41, nz_42, nz_43, nz_44, nz_45, nz_46, nz_47, nz_48, nz_49, nz_50, nz_51, nz_63, nz_64, nz_66, nz_127, nz_128, nz_246, nz_247, nz_248, nz_250, nz_251, nz_252, nz_254, nz_255, nz_256, nz_400, nz_2500, bI_0]
      rcases Bool.eq_false_or_eq_true (sp_hds P R p F1 0 (pg_han P).length) with e | e
      rotate_left
      · rw [if_pos e, if_neg (by rw [e]; decide), eq_mo_check_107, eq_mo_check_108, if_pos rfl]
        exact ⟨M1, rfl, a2⟩
      · obtain ⟨M2, c1, c2, c3⟩ := sm_leave hwP hP1 hF1 wF1 hp
        have hP2 := c2.P hP1
        have hR2 := c2.R hR1
        rw [if_neg (by rw [e]; decide), if_pos e, c1, Option.bind_some]
        simp only [bI_0]
        have z2 := a2.tr c2
        cases hst : sp_stp P p F1 with
        | none =>
          rw [if_pos (by rfl), eq_mo_check_107, eq_mo_check_108, if_pos rfl]
          exact ⟨M2, rfl, z2⟩
        | some F2 =>
          rw [if_neg (by rw [Option.isSome_some]; decide), eq_mo_check_108, nI_clamp (by omega), Option.bind_some]
          simp only [nz_0, nz_1, nz_2, nz_3, nz_4, nz_5, nz_6, nz_7, nz_8, nz_9, nz_10, nz_11, nz_12, nz_13, nz_14, nz_15, nz_16, nz_17, nz_18, nz_19, nz_20, nz_21, nz_22, nz_23, nz_24, nz_25, nz_26, nz_27, nz_28, nz_29, nz_30, nz_31, nz_32, nz_33, nz_34, nz_35, nz_36, nz_37, nz_38, nz_39, nz_40, nz_41, nz_42, nz_43, nz_44, nz_45, nz_46, nz_47, nz_48, nz_49, nz_50, nz_51, nz_63, nz_64, nz_66, nz_127, nz_128, nz_246, nz_247, nz_248, nz_250, nz_251, nz_252, nz_254, nz_255, nz_256, nz_400, nz_2500]
          rw [if_neg (show ¬ nI 1 = nI 0 by decide)]
          simp only [if_neg (ni_in (show p < 50 by omega) (show p < 2 ^ 31 by omega))]
          rw [(hP2.i p hp).1, so_jmp (by omega), Option.bind_some]
          simp only [bI_0]
          -- the end of a round
          have h150 : ∀ (o5 : Option zm_V), (sp_end (pg_op P p) = false → rm_F M2 F2 ∧ wf_F F2) → ∃ M', rr_mo_check (n + 1) 150 [some (.inr (35, 0)), some (.inl (nI 1)), some (.inl (bI o)), some (.inl (nI p)), some (.inl (vz (sp_rx P R p))), o5] [] M2 = some (sp_ckf P R k (p + 1) (!sp_end (pg_op P p)) F2, M') ∧ zo_M M2 M' := by
            intro o5 hF2
            rw [eq_mo_check_150, nI_clamp (by omega), nz_0, nz_1, if_neg (ni_in (show p < 50 by omega) (show p < 2 ^ 31 by omega)), (hP2.i p hp).1, so_isEnd (by omega), Option.bind_some]
            simp only [bI_0]
            obtain ⟨M4, d1, d2⟩ := ih (p + 1) n M2 (!sp_end (pg_op P p)) F2 (nI 1) (some (.inl (vz (sp_rx P R p)))) o5 (by omega) (by omega) hP2 hR2 (fun q => hF2 (by
              cases h : sp_end (pg_op P p) with
              | false => rfl
              | true => rw [h] at q; cases q))
            rcases Bool.eq_false_or_eq_true (sp_end (pg_op P p)) with e3 | e3
            · rw [if_neg (by rw [e3]; decide), eq_mo_check_167, nz_1, nI_add]
              rw [e3] at d1
              rw [show nI 0 = bI (!true) from rfl, d1, e3]
              exact ⟨M4, rfl, d2⟩
            · rw [if_pos e3, eq_mo_check_167, nz_1, nI_add]
              rw [e3] at d1
              rw [show nI 1 = bI (!false) from rfl] at d1 ⊢
              rw [d1, e3]
              exact ⟨M4, rfl, d2⟩
          have h20 : sp_end (pg_op P p) = false ∨ sp_jmp (pg_op P p) = true → pg_op P p ≠ 20 := by
            intro h h20
            rw [h20] at h
            revert h
            decide
          rcases Bool.eq_false_or_eq_true (sp_jmp (pg_op P p)) with ej | ej
          · obtain ⟨hF2, wF2⟩ := c3 (h20 (Or.inr ej)) F2 hst
            have hbb : pg_b P p < 50 := by
              unfold sp_jmp at ej
              rw [Bool.and_eq_true, decide_eq_true_eq, decide_eq_true_eq] at ej
              exact hI.2.2.1 ej.1 ej.2
            rw [if_neg (by rw [ej]; decide), (hP2.i p hp).2.2, so_fitsAt hwP hP2 hR2 hb hF2 wF2 hbb, Option.bind_some, ej]
            simp only [bI_0]
            rcases Bool.eq_false_or_eq_true (sp_fat P R (pg_b P p) F2) with e2 | e2
            · rw [if_neg (by rw [e2]; decide), e2]
              obtain ⟨M', d1, d2⟩ := h150 (some (.inl (bI true))) (fun _ => ⟨hF2, wF2⟩)
              rw [d1]
              exact ⟨M', rfl, z2.tr d2⟩
            · rw [if_pos e2, e2]
              exact ⟨M2, rfl, z2⟩
          · rw [if_pos ej, ej]
            obtain ⟨M', d1, d2⟩ := h150 o5 (fun q => c3 (h20 (Or.inl q)) F2 hst)
            rw [d1]
            exact ⟨M', rfl, z2.tr d2⟩
theorem sm_check {P : sp_P} {M : zm_M} {B : List Nat} (hwP : wf_P P) (hP : rm_P P M) (hB : rm_B M B) (hl : B.length ≤ 400) (hb : ∀ x ∈ B, x < 256) : ∃ M', fn_mo_check [.inr (35, 0)] M = some (sp_check P B, M') ∧ zo_J M M' := by
  have h50 := hwP.n
  rw [eq_mo_check, show (1073741824 : Nat) = 1073741823 + 1 from rfl, eq_mo_check_0, hP.n]
  simp only [nz_0, nz_1, nz_2, nz_3, nz_4, nz_5, nz_6, nz_7, nz_8, nz_9, nz_10, nz_11, nz_12, nz_13, nz_14, nz_15, nz_16, nz_17, nz_18, nz_19, nz_20, nz_21, nz_22, nz_23, nz_24, nz_25, nz_26, nz_27, nz_28, nz_29, nz_30, nz_31, nz_32, nz_33, nz_34, nz_35, nz_36, nz_37, nz_38, nz_39, nz_40, nz_41, nz_42, nz_43, nz_44, nz_45, nz_46, nz_47, nz_48, nz_49, nz_50, nz_51, nz_63, nz_64, nz_66, nz_127, nz_128, nz_246, nz_247, nz_248, nz_250, nz_251, nz_252, nz_254, nz_255, nz_256, nz_400, nz_2500]
  unfold sp_check
  by_cases e : pg_n P = 0
  · rw [if_pos (by rw [e]), if_pos e]
    exact ⟨M, rfl, zo_J.rf⟩
  · rw [if_neg (ni_ne e (by omega) (by omega)), if_neg e]
    obtain ⟨M1, a1, a2, a3⟩ := sm_readRows hwP hP hB hl hb
    rw [a1, Option.bind_some]
    simp only [bI_0]
    cases hr : sp_rows P B with
    | none =>
      rw [if_pos (by rfl)]
      exact ⟨M1, rfl, a2⟩
    | some R =>
      obtain ⟨M2, b1, b2, b3⟩ := sm_first hwP (a2.P hP)
      rw [if_neg (by rw [Option.isSome_some]; decide), b1, Option.bind_some]
      have hok : ok_R P R := rs_ok hwP _ _ _ _ _ hr
      obtain ⟨M3, c1, c2⟩ := so_ck_lp hwP hok (pg_n P) 0 (1073741823 + 1) M2 true (sp_fst P) (bI true) none none (by omega) (by omega) (b2.P (a2.P hP)) (b2.R (a3 R hr)) (fun _ => ⟨b3, (fst_ok hwP).1⟩)
      rw [Option.isSome_some, show nI 1 = bI true from rfl, c1]
      exact ⟨M3, rfl, (a2.tr b2.J).tr c2.J⟩
