/-! THE CHECK: the reference, going through -/
theorem so_ta_lo {p : Nat} (hp : p < 50) : ∀ (k i n : Nat) (M : zm_M), i + k = 10 → k < n → (∀ j, j < i → M 47 0 j = M 57 0 (10 * p + j)) → ∃ M' n', rr_mo_take n 21 [some (.inr (35, 0)), some (.inl (nI p)), some (.inl (nI i))] [] M = rr_mo_take (n' + 1) 52 [some (.inr (35, 0)), some (.inl (nI p)), some (.inl (nI 0))] [] M' ∧ n ≤ n' + 1 + k ∧ zo_a 47 0 M M' ∧ ∀ j, j < 10 → M' 47 0 j = M 57 0 (10 * p + j) := by
  intro k
  induction k with
  | zero =>
    intro i n M hk hn hM
    obtain ⟨n, rfl⟩ : ∃ m, n = m + 1 := ⟨n - 1, by omega⟩
    rw [eq_mo_take_21]
    simp only [nz_0, nz_1, nz_2, nz_3, nz_4, nz_5, nz_6, nz_7, nz_8, nz_9, nz_10, nz_11, nz_12, nz_13, nz_14, nz_15, nz_16, nz_17, nz_18, nz_19, nz_20, nz_21, nz_22, nz_23, nz_24, nz_25, nz_26, nz_27, nz_28, nz_29, nz_30, nz_31, nz_32, nz_33, nz_34, nz_35, nz_36, nz_37, nz_38, nz_39, nz_40, nz_41, nz_42, nz_43, nz_44, nz_45, nz_46, nz_47, nz_48, nz_49, nz_50, nz_51, nz_63, nz_64, nz_66, nz_127, nz_128, nz_246, nz_247, nz_248, nz_250, nz_251, nz_252, nz_254, nz_255, nz_256, nz_400, nz_2500]
    rw [if_neg (ni_nl (by omega) (by omega) (by omega))]
    exact ⟨M, n, rfl, by omega, zo_a.rf, fun j hj => hM j (by omega)⟩
  | succ k ih =>
    intro i n M hk hn hM
    obtain ⟨n, rfl⟩ : ∃ m, n = m + 1 := ⟨n - 1, by omega⟩
    rw [eq_mo_take_21]
    simp only [nz_0, nz_1, nz_2, nz_3, nz_4, nz_5, nz_6, nz_7, nz_8, nz_9, nz_10, nz_11, nz_12, nz_13, nz_14, nz_15, nz_16, nz_17, nz_18, nz_19, nz_20, nz_21, nz_22, nz_23, nz_24, nz_25, nz_26, nz_27, nz_28, nz_29, nz_30, nz_31, nz_32, nz_33, nz_34, nz_35, nz_36, nz_37, nz_38, nz_39, nz_40, nz_41, nz_42, nz_43, nz_44, nz_45, nz_46, nz_47, nz_48, nz_49, nz_50, nz_51, nz_63, nz_64, nz_66, nz_127, nz_128, nz_246, nz_247, nz_248, nz_250, nz_251, nz_252, nz_254, nz_255, nz_256, nz_400, nz_2500, pk_mul, nI_add]
    rw [if_pos (ni_lt (by omega) (by omega) (by omega)), nI_clamp (by omega), nI_clamp (by omega), if_neg (ni_in (show 10 * p + i < 4000 by omega) (by omega)), if_neg (ni_in (show i < 10 by omega) (by omega))]
    obtain ⟨M', n', h1, h2, h3, h4⟩ := ih (i + 1) n (zm_up M 47 0 i (M 57 0 (10 * p + i))) (by omega) (by omega) (by
      intro j hj
      rw [zu_s (s' := 57) (by decide)]
      by_cases e : j = i
      · subst e
        exact zu_e
      · rw [zu_k e]
        exact hM j (by omega))
    refine ⟨M', n', h1, by omega, zo_a.up.tr h3, ?_⟩
    intro j hj
    rw [h4 j hj, zu_s (by decide)]
theorem so_ta_st {p d : Nat} (hp : p < 50) (hd8 : d ≤ 8) : ∀ (k i n : Nat) (M : zm_M), i + k = d → k < n → M 35 0 20 = nI d → (∀ j, j < i → M 48 0 j = M 58 0 (8 * p + j)) → ∃ M', rr_mo_take n 52 [some (.inr (35, 0)), some (.inl (nI p)), some (.inl (nI i))] [] M = some M' ∧ zo_a 48 0 M M' ∧ ∀ j, j < d → M' 48 0 j = M 58 0 (8 * p + j) := by
  intro k
  induction k with
  | zero =>
    intro i n M hk hn hd hM
    obtain ⟨n, rfl⟩ : ∃ m, n = m + 1 := ⟨n - 1, by omega⟩
    rw [eq_mo_take_52, hd, if_neg (ni_nl (by omega) (by omega) (by omega))]
    exact ⟨M, rfl, zo_a.rf, fun j hj => hM j (by omega)⟩
  | succ k ih =>
    intro i n M hk hn hd hM
    obtain ⟨n, rfl⟩ : ∃ m, n = m + 1 := ⟨n - 1, by omega⟩
    rw [eq_mo_take_52, hd]
    simp only [nz_0, nz_1, nz_2, nz_3, nz_4, nz_5, nz_6, nz_7, nz_8, nz_9, nz_10, nz_11, nz_12, nz_13, nz_14, nz_15, nz_16, nz_17, nz_18, nz_19, nz_20, nz_21, nz_22, nz_23, nz_24, nz_25, nz_26, nz_27, nz_28, nz_29, nz_30, nz_31, nz_32, nz_33, nz_34, nz_35, nz_36, nz_37, nz_38, nz_39, nz_40, nz_41, nz_42, nz_43, nz_44, nz_45, nz_46, nz_47, nz_48, nz_49, nz_50, nz_51, nz_63, nz_64, nz_66, nz_127, nz_128, nz_246, nz_247, nz_248, nz_250, nz_251, nz_252, nz_254, nz_255, nz_256, nz_400, nz_2500, pk_mul, nI_add]
    rw [if_pos (ni_lt (by omega) (by omega) (by omega)), nI_clamp (by omega), nI_clamp (by omega), if_neg (ni_in (show 8 * p + i < 3200 by omega) (by omega)), if_neg (ni_in (show i < 9 by omega) (by omega))]
    obtain ⟨M', h1, h3, h4⟩ := ih (i + 1) n (zm_up M 48 0 i (M 58 0 (8 * p + i))) (by omega) (by omega) (by rw [zu_s (by decide)]; exact hd) (by
      intro j hj
      rw [zu_s (s' := 58) (by decide)]
      by_cases e : j = i
      · subst e
        exact zu_e
      · rw [zu_k e]
        exact hM j (by omega))
    refine ⟨M', h1, zo_a.up.tr h3, ?_⟩
    intro j hj
    rw [h4 j hj, zu_s (by decide)]
theorem sm_take {M : zm_M} {r : Nat} {q : sp_W} (hr : r < 50) (h : rm_w M r q) (hb : q.2.2.2.2 = sp_ht q.2.2.1) : ∃ M', fn_mo_take [.inr (35, 0), .inl (nI r)] M = some M' ∧ zo_M M M' ∧ rm_F M' q.2.2 := by
  obtain ⟨-, -, ⟨w3, w4, w5, w6, -⟩, w8, wG⟩ := h
  have hl : q.2.2.2.1.length ≤ 8 := Nat.le_trans (sp_sl_len _) w8
  rw [eq_mo_take, show (1073741824 : Nat) = 1073741823 + 1 from rfl, eq_mo_take_0]
  simp only [nz_0, nz_1, nz_2, nz_3, nz_4, nz_5, nz_6, nz_7, nz_8, nz_9, nz_10, nz_11, nz_12, nz_13, nz_14, nz_15, nz_16, nz_17, nz_18, nz_19, nz_20, nz_21, nz_22, nz_23, nz_24, nz_25, nz_26, nz_27, nz_28, nz_29, nz_30, nz_31, nz_32, nz_33, nz_34, nz_35, nz_36, nz_37, nz_38, nz_39, nz_40, nz_41, nz_42, nz_43, nz_44, nz_45, nz_46, nz_47, nz_48, nz_49, nz_50, nz_51, nz_63, nz_64, nz_66, nz_127, nz_128, nz_246, nz_247, nz_248, nz_250, nz_251, nz_252, nz_254, nz_255, nz_256, nz_400, nz_2500]
  rw [nI_clamp (by omega), if_neg (ni_in (show r < 400 by omega) (show r < 2 ^ 31 by omega)), so_rowIsRaw hr w3 wG.1 (fun j hj => by rw [zu_s (by decide)]; exact w4 j hj)]
  simp only [Option.bind_some]
  rw [if_pos (bI_01 _), w5, ← hb]
  obtain ⟨M1, n1, a1, a2, a3, a4⟩ := so_ta_lo hr 10 0 (1073741823 + 1) (zm_up (zm_up M 35 0 20 (nI q.2.2.2.1.length)) 35 0 21 (bI q.2.2.2.2)) (by omega) (by omega) (fun j hj => by omega)
  obtain ⟨M2, b1, b3, b4⟩ := so_ta_st (d := q.2.2.2.1.length) hr hl q.2.2.2.1.length 0 (n1 + 1) M1 (by omega) (by omega) (by rw [a3.s (by decide), zu_k (by decide), zu_e]) (fun j hj => by omega)
  rw [a1, b1]
  refine ⟨M2, rfl, ?_, ⟨w3, ?_, ?_, ?_, ?_⟩, w8⟩
  · have hz : zo_M (zm_up (zm_up M 35 0 20 (nI q.2.2.2.1.length)) 35 0 21 (bI q.2.2.2.2)) M2 := by
      intro s i k x y z
      rw [b3 s i k (by omega), a3 s i k (by omega)]
    exact (zo_M.d.tr zo_M.r).tr hz
  · intro j hj
    rw [b3.s (by decide), a4 j hj, zu_s (by decide), zu_s (by decide)]
    exact w4 j hj
  · rw [b3.s (by decide), a3.s (by decide), zu_k (by decide), zu_e]
  · intro j hj
    rw [b4 j hj, a3.s (by decide), zu_s (by decide), zu_s (by decide)]
    exact w6 j hj
  · rw [b3.s (by decide), a3.s (by decide), zu_e]
theorem zu_back (M : zm_M) (a b : Int32) : zm_up (zm_up (zm_up (zm_up M 35 0 20 a) 48 0 0 b) 35 0 20 (M 35 0 20)) 48 0 0 (M 48 0 0) = M := by
  funext s i k
  by_cases e1 : s = 48
  · subst e1
    by_cases ei : i = 0
    · subst ei
      by_cases ek : k = 0
      · subst ek
        rw [zu_e]
      · rw [zu_k ek, zu_s (by decide), zu_k ek, zu_s (by decide)]
    · rw [zu_i ei, zu_i ei, zu_i ei, zu_i ei]
  · rw [zu_s e1]
    by_cases e2 : s = 35
    · subst e2
      by_cases ei : i = 0
      · subst ei
        by_cases ek : k = 20
        · subst ek
          rw [zu_e]
        · rw [zu_k ek, zu_s (by decide), zu_k ek]
      · rw [zu_i ei, zu_i ei, zu_i ei]
    · rw [zu_s e2, zu_s e1, zu_s e2]
theorem so_hd_lp {P : sp_P} (hwP : wf_P P) {M : zm_M} {p : Nat} {F : sp_F} {R : List sp_W} (hp : p < 50) (wF : wf_F F) (hP : rm_P P M) (hR : rm_R M R) (hb : ok_R P R) (hF : rm_F M F) : ∀ (k h n : Nat) (o3 o4 o5 : Option zm_V), h + k = (pg_han P).length → k < n → rr_mo_handled n 2 [some (.inr (35, 0)), some (.inl (nI p)), some (.inl (nI h)), o3, o4, o5] [] M = some (bI (sp_hds P R p F h k), M) := by
  have h4 : (pg_han P).length ≤ 4 := hwP.2.2.2.2.2.2.2.1
  intro k
  induction k with
  | zero =>
    intro h n o3 o4 o5 hk hn
    obtain ⟨n, rfl⟩ : ∃ q, n = q + 1 := ⟨n - 1, by omega⟩
    rw [eq_mo_handled_2, hP.h.1, if_neg (ni_nl (by omega) (by omega) (by omega)), nz_1]
    rfl
  | succ k ih =>
    intro h n o3 o4 o5 hk hn
    obtain ⟨n, rfl⟩ : ∃ q, n = q + 1 := ⟨n - 1, by omega⟩
    have hH := wf_hdl hwP (show h < (pg_han P).length by omega)
    obtain ⟨a1, a2, a3, a4⟩ := hP.h.2 h (by omega)
    unfold wf_H at hH
    have z0 : (0 : Int32).toNatClampNeg = 0 := by decide
    have z00 : ¬ ((0 : Int32) < 0 ∨ 9 ≤ (0 : Nat)) := by decide
    rw [eq_mo_handled_2, hP.h.1, if_pos (ni_lt (by omega) (by omega) (by omega)), nI_clamp (by omega), z0]
    simp only [if_neg z00]
    simp only [nz_0, nz_1, nz_2, nz_3, nz_4, nz_5, nz_6, nz_7, nz_8, nz_9, nz_10, nz_11, nz_12, nz_13, nz_14, nz_15, nz_16, nz_17, nz_18, nz_19, nz_20, nz_21, nz_22, nz_23, nz_24, nz_25, nz_26, nz_27, nz_28, nz_29, nz_30, nz_31, nz_32, nz_33, nz_34, nz_35, nz_36, nz_37, nz_38, nz_39, nz_40, nz_41, nz_42, nz_43, nz_44, nz_45, nz_46, nz_47, nz_48, nz_49, nz_50, nz_51, nz_63, nz_64, nz_66, nz_127, nz_128, nz_246, nz_247, nz_248, nz_250, nz_251, nz_252, nz_254, nz_255, nz_256, nz_400, nz_2500, nI_add]
    simp only [if_neg (ni_in (show h < 4 by omega) (show h < 2 ^ 31 by omega))]
    have hsp : sp_hds P R p F h (k + 1) = ((!(decide ((pg_hd P h).1 ≤ p ∧ p < (pg_hd P h).2.1)) || sp_fat P R (pg_hd P h).2.2.1 (F.1, [16 * (pg_hd P h).2.2.2 + 7], F.2.2)) && sp_hds P R p F (h + 1) k) := by
      unfold sp_hds
      rw [List.range'_succ, List.all_cons]
    rw [hsp, a1, a2, a3, a4]
    by_cases e1 : p < (pg_hd P h).1
    · rw [if_pos (ni_lt e1 (by omega) (by omega)), decide_eq_false (show ¬ ((pg_hd P h).1 ≤ p ∧ p < (pg_hd P h).2.1) by omega), ih (h + 1) n _ _ _ (by omega) (by omega)]
      rfl
    · rw [if_neg (ni_nl (by omega) (by omega) (by omega))]
      by_cases e2 : p < (pg_hd P h).2.1
      · rw [if_pos (ni_lt e2 (by omega) (by omega)), decide_eq_true (show (pg_hd P h).1 ≤ p ∧ p < (pg_hd P h).2.1 by omega)]
        simp only [pk_mul, nI_add]
        have zz : zo_M M (zm_up (zm_up M 35 0 20 (nI 1)) 48 0 0 (nI (16 * (pg_hd P h).2.2.2 + 7))) := zo_M.d.tr zo_M.t
        have hF1 : rm_F (zm_up (zm_up M 35 0 20 (nI 1)) 48 0 0 (nI (16 * (pg_hd P h).2.2.2 + 7))) (F.1, [16 * (pg_hd P h).2.2.2 + 7], F.2.2) := by
          refine ⟨⟨hF.1.1, ?_, ?_, ?_, ?_⟩, ?_⟩
          · intro j hj
            rw [zu_s (by decide), zu_s (by decide)]
            exact hF.1.2.1 j hj
          · rw [zu_s (by decide), zu_e]
            rfl
          · intro i hi
            have : i = 0 := by
              have hi : i < 1 := hi
              omega
            subst this
            rw [zu_e]
            rfl
          · rw [zu_s (by decide), zu_k (by decide)]
            exact hF.1.2.2.2.2
          · show sp_sl [16 * (pg_hd P h).2.2.2 + 7] ≤ 8
            have := sp_wd_le (16 * (pg_hd P h).2.2.2 + 7)
            rw [sp_sl_c, show sp_sl [] = 0 from rfl]
            omega
        have hw1 : wf_F (F.1, [16 * (pg_hd P h).2.2.2 + 7], F.2.2) := ⟨wF.1, fun t ht => by rw [List.mem_singleton] at ht; rw [ht]; exact wt_7 (by omega)⟩
        rw [so_fitsAt hwP (zz.P hP) (zz.R hR) hb hF1 hw1 (by omega), Option.bind_some]
        simp only [bI_0, zu_back]
        rcases Bool.eq_false_or_eq_true (sp_fat P R (pg_hd P h).2.2.1 (F.1, [16 * (pg_hd P h).2.2.2 + 7], F.2.2)) with e2 | e2
        · rw [if_neg (by rw [e2]; decide), e2, ih (h + 1) n _ _ _ (by omega) (by omega)]
          rfl
        · rw [if_pos e2, e2]
          rfl
      · rw [if_neg (ni_nl (by omega) (by omega) (by omega)), decide_eq_false (show ¬ ((pg_hd P h).1 ≤ p ∧ p < (pg_hd P h).2.1) by omega), ih (h + 1) n _ _ _ (by omega) (by omega)]
        rfl
theorem so_handled {P : sp_P} (hwP : wf_P P) {M : zm_M} {p : Nat} {F : sp_F} {R : List sp_W} (hp : p < 50) (wF : wf_F F) (hP : rm_P P M) (hR : rm_R M R) (hb : ok_R P R) (hF : rm_F M F) : fn_mo_handled [.inr (35, 0), .inl (nI p)] M = some (bI (sp_hds P R p F 0 (pg_han P).length), M) := by
  have h4 : (pg_han P).length ≤ 4 := hwP.2.2.2.2.2.2.2.1
  rw [eq_mo_handled, show (1073741824 : Nat) = 1073741823 + 1 from rfl, eq_mo_handled_0, nz_0]
  exact so_hd_lp hwP hp wF hP hR hb hF (pg_han P).length 0 _ _ _ _ (by omega) (by omega)
