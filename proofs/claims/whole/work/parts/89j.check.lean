/-! THE CHECK -/
def sp_fits (P : sp_P) (F G : sp_F) : Bool := (F.2.2 == G.2.2) && ((F.2.1.length == G.2.1.length) && ((List.range' 0 10).all (fun i => sp_is P (F.1.getD i 0) (G.1.getD i 0)) && (List.range' 0 F.2.1.length).all (fun i => sp_is P (F.2.1.getD (F.2.1.length - 1 - i) 0) (G.2.1.getD (F.2.1.length - 1 - i) 0))))
def sp_fat (P : sp_P) (R : List sp_W) (p : Nat) (F : sp_F) : Bool := match sp_rx P R p with
  | none => false
  | some r => sp_fits P F (R.getD r wz).2.2
def sp_hds (P : sp_P) (R : List sp_W) (p : Nat) (F : sp_F) (h k : Nat) : Bool := (List.range' h k).all fun h => !(decide ((pg_hd P h).1 ≤ p ∧ p < (pg_hd P h).2.1)) || sp_fat P R (pg_hd P h).2.2.1 (F.1, [16 * (pg_hd P h).2.2.2 + 7], F.2.2)
def sp_bg (P : sp_P) (R : List sp_W) (p : Nat) (o : Bool) (F : sp_F) : Option sp_F := match sp_rx P R p with
  | none => if o then some F else none
  | some r => if o && !sp_fits P F (R.getD r wz).2.2 then none else some (R.getD r wz).2.2
def sp_ck1 (P : sp_P) (R : List sp_W) (p : Nat) (o : Bool) (F : sp_F) : Option sp_F := (sp_bg P R p o F).bind fun F1 => if sp_hds P R p F1 0 (pg_han P).length then (sp_stp P p F1).bind fun F2 => if sp_jmp (pg_op P p) && !sp_fat P R (pg_b P p) F2 then none else some F2 else none
def sp_ckf (P : sp_P) (R : List sp_W) : Nat → Nat → Bool → sp_F → Int32
  | 0, _, o, _ => if o then nI (pg_n P) else -nI 2
  | k + 1, p, o, F => match sp_ck1 P R p o F with
    | none => nI p
    | some F' => sp_ckf P R k (p + 1) (!sp_end (pg_op P p)) F'
theorem rx_lt {P : sp_P} {R : List sp_W} {p r : Nat} (h : sp_rx P R p = some r) : r < R.length ∧ p < pg_n P := by
  unfold sp_rx at h
  split at h
  · next e =>
    rw [List.findIdx?_eq_some_iff_getElem] at h
    exact ⟨h.1, e⟩
  · cases h
theorem sc_fits {P : sp_P} {M : zm_M} {f g : Nat} {F G : sp_F} (hC : rc_C P M) (hF : rc_F M f F) (hG : rc_F M g G) (wF : wf_F F) (wG : wf_F G) : fn_fa_fits [.inr (1, 0), .inr (23, f), .inr (23, g)] M = some (bI (sp_fits P F G), M) := by
  have hT : F.2.1.length ≤ 8 := Nat.le_trans (sp_sl_len _) hF.2.2
  have hT2 : G.2.1.length ≤ 8 := Nat.le_trans (sp_sl_len _) hG.2.2
  have l61 : F.2.1.length = G.2.1.length → ∀ (k i n : Nat), i + k = F.2.1.length → k < n → rr_fa_fits n 61 [some (.inr (1, 0)), some (.inr (23, f)), some (.inr (23, g)), some (.inl (nI i))] [] M = some (bI ((List.range' i k).all (fun i => sp_is P (F.2.1.getD (F.2.1.length - 1 - i) 0) (G.2.1.getD (F.2.1.length - 1 - i) 0))), M) := by
    intro hlen k
    induction k with
    | zero =>
      intro i n hk hn
      obtain ⟨n, rfl⟩ : ∃ q, n = q + 1 := ⟨n - 1, by omega⟩
      rw [eq_fa_fits_61, hF.1.2.2.1, if_neg (ni_nl (by omega) (by omega) (by omega)), nz_1]
      rfl
    | succ k ih =>
      intro i n hk hn
      obtain ⟨n, rfl⟩ : ∃ q, n = q + 1 := ⟨n - 1, by omega⟩
      rw [eq_fa_fits_61, hF.1.2.2.1, if_pos (ni_lt (by omega) (by omega) (by omega)), nI_clamp (by omega)]
      simp only [nz_0, nz_1, nz_2, nz_3, nz_4, nz_5, nz_6, nz_7, nz_8, nz_9, nz_10, nz_11, nz_12, nz_13, nz_14, nz_15, nz_16, nz_17, nz_18, nz_19, nz_20, nz_21, nz_22, nz_23, nz_24, nz_25, nz_26, nz_27, nz_28, nz_29, nz_30, nz_31, nz_32, nz_33, nz_34, nz_35, nz_36, nz_37, nz_38, nz_39, nz_40, nz_41, nz_42, nz_43, nz_44, nz_45, nz_46, nz_47, nz_48, nz_49, nz_50, nz_51, nz_63, nz_64, nz_66, nz_127, nz_128, nz_246, nz_247, nz_248, nz_250, nz_251, nz_252, nz_254, nz_255, nz_256, nz_400, nz_2500, nI_add]
      simp only [if_neg (ni_in (show i < 8 by omega) (show i < 2 ^ 31 by omega))]
      have hg := hG.1.2.2.2.1 i (by omega)
      rw [← hlen] at hg
      rw [hF.1.2.2.2.1 i (by omega), hg, sc_is hC (wt_gd wF.2 _) (wt_gd wG.2 _)]
      simp only [Option.bind_some, bI_0]
      rw [List.range'_succ, List.all_cons]
      rcases Bool.eq_false_or_eq_true (sp_is P (F.2.1.getD (F.2.1.length - 1 - i) 0) (G.2.1.getD (F.2.1.length - 1 - i) 0)) with e | e
      · rw [if_neg (by rw [e]; decide), e, Bool.true_and]
        exact ih (i + 1) n (by omega) (by omega)
      · rw [if_pos e, e, Bool.false_and]
        rfl
  have l26 : F.2.1.length = G.2.1.length → ∀ (k i n : Nat), i + k = 10 → k + 10 < n → rr_fa_fits n 26 [some (.inr (1, 0)), some (.inr (23, f)), some (.inr (23, g)), some (.inl (nI i))] [] M = some (bI ((List.range' i k).all (fun i => sp_is P (F.1.getD i 0) (G.1.getD i 0)) && (List.range' 0 F.2.1.length).all (fun i => sp_is P (F.2.1.getD (F.2.1.length - 1 - i) 0) (G.2.1.getD (F.2.1.length - 1 - i) 0))), M) := by
    intro hlen k
    induction k with
    | zero =>
      intro i n hk hn
      obtain ⟨n, rfl⟩ : ∃ q, n = q + 1 := ⟨n - 1, by omega⟩
      rw [eq_fa_fits_26]
      simp only [nz_0, nz_1, nz_2, nz_3, nz_4, nz_5, nz_6, nz_7, nz_8, nz_9, nz_10, nz_11, nz_12, nz_13, nz_14, nz_15, nz_16, nz_17, nz_18, nz_19, nz_20, nz_21, nz_22, nz_23, nz_24, nz_25, nz_26, nz_27, nz_28, nz_29, nz_30, nz_31, nz_32, nz_33, nz_34, nz_35, nz_36, nz_37, nz_38, nz_39, nz_40, nz_41, nz_42, nz_43, nz_44, nz_45, nz_46, nz_47, nz_48, nz_49, nz_50, nz_51, nz_63, nz_64, nz_66, nz_127, nz_128, nz_246, nz_247, nz_248, nz_250, nz_251, nz_252, nz_254, nz_255, nz_256, nz_400, nz_2500]
      rw [if_neg (ni_nl (by omega) (by omega) (by omega)), l61 hlen F.2.1.length 0 (n + 1) (by omega) (by omega)]
      rfl
    | succ k ih =>
      intro i n hk hn
      obtain ⟨n, rfl⟩ : ∃ q, n = q + 1 := ⟨n - 1, by omega⟩
      rw [eq_fa_fits_26, nI_clamp (by omega)]
      simp only [nz_0, nz_1, nz_2, nz_3, nz_4, nz_5, nz_6, nz_7, nz_8, nz_9, nz_10, nz_11, nz_12, nz_13, nz_14, nz_15, nz_16, nz_17, nz_18, nz_19, nz_20, nz_21, nz_22, nz_23, nz_24, nz_25, nz_26, nz_27, nz_28, nz_29, nz_30, nz_31, nz_32, nz_33, nz_34, nz_35, nz_36, nz_37, nz_38, nz_39, nz_40, nz_41, nz_42, nz_43, nz_44, nz_45, nz_46, nz_47, nz_48, nz_49, nz_50, nz_51, nz_63, nz_64, nz_66, nz_127, nz_128, nz_246, nz_247, nz_248, nz_250, nz_251, nz_252, nz_254, nz_255, nz_256, nz_400, nz_2500, nI_add]
      rw [if_pos (ni_lt (by omega) (by omega) (by omega))]
      simp only [if_neg (ni_in (show i < 10 by omega) (show i < 2 ^ 31 by omega))]
      rw [hF.1.2.1 i (by omega), hG.1.2.1 i (by omega), sc_is hC (wt_gd wF.1 _) (wt_gd wG.1 _)]
      simp only [Option.bind_some, bI_0]
      rw [List.range'_succ, List.all_cons]
      rcases Bool.eq_false_or_eq_true (sp_is P (F.1.getD i 0) (G.1.getD i 0)) with e | e
      · rw [if_neg (by rw [e]; decide), e, Bool.true_and]
        exact ih (i + 1) n (by omega) (by omega)
      · rw [if_pos e, e, Bool.false_and, Bool.false_and]
        rfl
  rw [eq_fa_fits, show (1073741824 : Nat) = 1073741823 + 1 from rfl, eq_fa_fits_0, hF.1.2.2.2.2, hG.1.2.2.2.2, hF.1.2.2.1, hG.1.2.2.1]
  simp only [nz_0, nz_1, nz_2, nz_3, nz_4, nz_5, nz_6, nz_7, nz_8, nz_9, nz_10, nz_11, nz_12, nz_13, nz_14, nz_15, nz_16, nz_17, nz_18, nz_19, nz_20, nz_21, nz_22, nz_23, nz_24, nz_25, nz_26, nz_27, nz_28, nz_29, nz_30, nz_31, nz_32, nz_33, nz_34, nz_35, nz_36, nz_37, nz_38, nz_39, nz_40, nz_41, nz_42, nz_43, nz_44, nz_45, nz_46, nz_47, nz_48, nz_49, nz_50, nz_51, nz_63, nz_64, nz_66, nz_127, nz_128, nz_246, nz_247, nz_248, nz_250, nz_251, nz_252, nz_254, nz_255, nz_256, nz_400, nz_2500]
  unfold sp_fits
  by_cases e1 : F.2.2 = G.2.2
  · rw [if_pos (by rw [e1])]
    by_cases e2 : F.2.1.length = G.2.1.length
    · rw [if_pos (by rw [e2]), l26 e2 10 0 (1073741823 + 1) (by omega) (by omega), beq_iff_eq.mpr e1, beq_iff_eq.mpr e2, Bool.true_and, Bool.true_and]
    · rw [if_neg (ni_ne e2 (by omega) (by omega)), beq_eq_false_iff_ne.mpr e2, Bool.false_and, Bool.and_false]
      rfl
  · rw [if_neg (by
      intro q
      apply e1
      revert q
      cases F.2.2 <;> cases G.2.2 <;> decide), beq_eq_false_iff_ne.mpr e1, Bool.false_and]
    rfl
def zo_c (M M' : zm_M) : Prop := ∀ s i k, ¬ (22 < s ∧ s < 26 ∧ (i = 103 ∨ i = 104)) → M' s i k = M s i k
theorem zo_c.rf {M : zm_M} : zo_c M M := fun _ _ _ _ => rfl
theorem zo_c.tr {M M1 M2 : zm_M} (h : zo_c M M1) (h2 : zo_c M1 M2) : zo_c M M2 := fun s i k a => (h2 s i k a).trans (h s i k a)
theorem zo_F.c {f : Nat} {M M' : zm_M} (hf : f = 103 ∨ f = 104) (h : zo_F f M M') : zo_c M M' := fun s i k a => h s i k (by omega)
theorem zo_c.P {M M' : zm_M} {P : sp_P} (h : zo_c M M') (hP : rc_P P M) : rc_P P M' := hP.kept fun s hs => by
  funext i k
  exact h s i k (by omega)
theorem zo_c.R {M M' : zm_M} {P : sp_P} {R : List sp_W} (h : zo_c M M') (hR : rc_R P M R) : rc_R P M' R := by
  obtain ⟨h1, h2, h3, h4⟩ := hR
  refine ⟨h1, by rw [h 29 0 8 (by omega)]; exact h2, ?_, fun p hp => by rw [h 33 0 p (by omega)]; exact h4 p hp⟩
  intro i hi
  obtain ⟨a, b, c, d⟩ := h3 i hi
  exact ⟨by rw [h 31 0 i (by omega)]; exact a, by rw [h 32 0 i (by omega)]; exact b, c.kept (funext fun k => h 23 _ k (by omega)) (funext fun k => h 24 _ k (by omega)) (funext fun k => h 25 _ k (by omega)), d⟩
theorem sc_fitsAt {P : sp_P} {M : zm_M} {f p : Nat} {F : sp_F} {R : List sp_W} (hP : rc_P P M) (hR : rc_R P M R) (hF : rc_F M f F) (wF : wf_F F) (hp : p < 50) : fn_ck_fitsAt [.inr (34, 0), .inl (nI p), .inr (23, f)] M = some (bI (sp_fat P R p F), M) := by
  rw [eq_ck_fitsAt, nI_clamp (by omega)]
  simp only [nz_0, nz_1, nz_2, nz_3, nz_4, nz_5, nz_6, nz_7, nz_8, nz_9, nz_10, nz_11, nz_12, nz_13, nz_14, nz_15, nz_16, nz_17, nz_18, nz_19, nz_20, nz_21, nz_22, nz_23, nz_24, nz_25, nz_26, nz_27, nz_28, nz_29, nz_30, nz_31, nz_32, nz_33, nz_34, nz_35, nz_36, nz_37, nz_38, nz_39, nz_40, nz_41, nz_42, nz_43, nz_44, nz_45, nz_46, nz_47, nz_48, nz_49, nz_50, nz_51, nz_63, nz_64, nz_66, nz_127, nz_128, nz_246, nz_247, nz_248, nz_250, nz_251, nz_252, nz_254, nz_255, nz_256, nz_400, nz_2500]
  rw [if_neg (ni_in hp (by omega)), hR.2.2.2 p hp]
  unfold sp_fat
  cases hx : sp_rx P R p with
  | none =>
    rw [if_pos (by decide)]
    rfl
  | some r =>
    obtain ⟨hr, -⟩ := rx_lt hx
    have hr50 := hR.1
    obtain ⟨-, -, k3, k4⟩ := hR.2.2.1 r hr
    rw [vp_s, if_neg (vp_ne2 (by omega)), nI_clamp (by omega), if_neg (ni_in (show r < 50 by omega) (by omega)), sc_fits hP.1 hF k3 wF k4]
    simp only [Option.bind_some, bI_0]
    rcases Bool.eq_false_or_eq_true (sp_fits P F (R.getD r wz).2.2) with e | e
    · rw [if_neg (by rw [e]; decide), e]
      rfl
    · rw [if_pos e, e]
      rfl
theorem sc_begins {P : sp_P} {M : zm_M} {p : Nat} {o : Bool} {F : sp_F} {R : List sp_W} (hP : rc_P P M) (hR : rc_R P M R) (hF : o = true → rc_F M 103 F ∧ wf_F F) (hp : p < 50) : ∃ M', fn_ck_begins [.inr (34, 0), .inl (nI p), .inl (bI o)] M = some (bI (sp_bg P R p o F).isSome, M') ∧ zo_c M M' ∧ ∀ F', sp_bg P R p o F = some F' → rc_F M' 103 F' ∧ wf_F F' := by
  rw [eq_ck_begins, nI_clamp (by omega)]
  simp only [nz_0, nz_1, nz_2, nz_3, nz_4, nz_5, nz_6, nz_7, nz_8, nz_9, nz_10, nz_11, nz_12, nz_13, nz_14, nz_15, nz_16, nz_17, nz_18, nz_19, nz_20, nz_21, nz_22, nz_23, nz_24, nz_25, nz_26, nz_27, nz_28, nz_29, nz_30, nz_31, nz_32, nz_33, nz_34, nz_35, nz_36, nz_37, nz_38, nz_39, nz_40, nz_41, nz_42, nz_43, nz_44, nz_45, nz_46, nz_47, nz_48, nz_49, nz_50, nz_51, nz_63, nz_64, nz_66, nz_127, nz_128, nz_246, nz_247, nz_248, nz_250, nz_251, nz_252, nz_254, nz_255, nz_256, nz_400, nz_2500]
  rw [if_neg (ni_in hp (by omega)), hR.2.2.2 p hp]
  unfold sp_bg
  cases hx : sp_rx P R p with
  | none =>
    rw [if_pos (by decide), if_pos (bI_01 o)]
    cases o with
    | false => exact ⟨M, rfl, zo_c.rf, fun F' q => by cases q⟩
    | true => exact ⟨M, rfl, zo_c.rf, fun F' q => by cases q; exact hF rfl⟩
  | some r =>
    obtain ⟨hr, -⟩ := rx_lt hx
    have hr50 := hR.1
    obtain ⟨-, -, k3, k4⟩ := hR.2.2.1 r hr
    obtain ⟨M1, a1, a2, a3⟩ := sc_takeOver (f := 103) k3
    rw [vp_s, if_neg (vp_ne2 (by omega)), nI_clamp (by omega)]
    simp only [if_neg (ni_in (show r < 50 by omega) (show r < 2 ^ 31 by omega)), bI_0]
    cases o with
    | false =>
      rw [if_pos rfl, a1, Option.bind_some]
      exact ⟨M1, rfl, a2.c (by omega), fun F' q => by cases q; exact ⟨a3, k4⟩⟩
    | true =>
      obtain ⟨h1, h2⟩ := hF rfl
      rw [if_neg (by decide), sc_fits hP.1 h1 k3 h2 k4, Option.bind_some]
      simp only [bI_0]
      rcases Bool.eq_false_or_eq_true (sp_fits P F (R.getD r wz).2.2) with e | e
      · rw [if_neg (by rw [e]; decide), a1, Option.bind_some, e]
        exact ⟨M1, rfl, a2.c (by omega), fun F' q => by cases q; exact ⟨a3, k4⟩⟩
      · rw [if_pos e, e]
        exact ⟨M, rfl, zo_c.rf, fun F' q => by cases q⟩
theorem sc_hf_lp {P : sp_P} (hwP : wf_P P) {p : Nat} {F : sp_F} {R : List sp_W} (hp : p < 50) (wF : wf_F F) : ∀ (k h n : Nat) (M : zm_M), h + k = (pg_han P).length → k < n → rc_P P M → rc_R P M R → rc_F M 103 F → ∃ M', rr_ck_handlersFit n 2 [some (.inr (34, 0)), some (.inl (nI p)), some (.inl (nI h))] [] M = some (bI (sp_hds P R p F h k), M') ∧ zo_F 104 M M' := by
  have h4 : (pg_han P).length ≤ 4 := hwP.2.2.2.2.2.2.2.1
  intro k
  induction k with
  | zero =>
    intro h n M hk hn hP hR hF
    obtain ⟨n, rfl⟩ : ∃ q, n = q + 1 := ⟨n - 1, by omega⟩
    rw [eq_ck_handlersFit_2, hP.h.1, if_neg (ni_nl (by omega) (by omega) (by omega)), nz_1]
    exact ⟨M, rfl, zo_F.rf⟩
  | succ k ih =>
    intro h n M hk hn hP hR hF
    obtain ⟨n, rfl⟩ : ∃ q, n = q + 1 := ⟨n - 1, by omega⟩
    have hH := wf_hdl hwP (show h < (pg_han P).length by omega)
    obtain ⟨a1, a2, a3, a4⟩ := hP.h.2 h (by omega)
    unfold wf_H at hH
    rw [eq_ck_handlersFit_2, hP.h.1, if_pos (ni_lt (by omega) (by omega) (by omega)), sc_guarded hwP hP hp (by omega), nI_clamp (by omega)]
    simp only [nz_0, nz_1, nz_2, nz_3, nz_4, nz_5, nz_6, nz_7, nz_8, nz_9, nz_10, nz_11, nz_12, nz_13, nz_14, nz_15, nz_16, nz_17, nz_18, nz_19, nz_20, nz_21, nz_22, nz_23, nz_24, nz_25, nz_26, nz_27, nz_28, nz_29, nz_30, nz_31, nz_32, nz_33, nz_34, nz_35, nz_36, nz_37, nz_38, nz_39, nz_40, nz_41, nz_42, nz_43, nz_44, nz_45, nz_46, nz_47, nz_48, nz_49, nz_50, nz_51, nz_63, nz_64, nz_66, nz_127, nz_128, nz_246, nz_247, nz_248, nz_250, nz_251, nz_252, nz_254, nz_255, nz_256, nz_400, nz_2500, nI_add, Option.bind_some, bI_0]
    have hsp : sp_hds P R p F h (k + 1) = ((!(decide ((pg_hd P h).1 ≤ p ∧ p < (pg_hd P h).2.1)) || sp_fat P R (pg_hd P h).2.2.1 (F.1, [16 * (pg_hd P h).2.2.2 + 7], F.2.2)) && sp_hds P R p F (h + 1) k) := by
      unfold sp_hds
      rw [List.range'_succ, List.all_cons]
    rw [hsp]
    by_cases e : (pg_hd P h).1 ≤ p ∧ p < (pg_hd P h).2.1
    · rw [decide_eq_true e, if_neg (by decide), if_neg (ni_in (show h < 4 by omega) (by omega)), a4]
      obtain ⟨M1, b1, b2, b3⟩ := sc_tofh (f := 104) hF (show (pg_hd P h).2.2.2 < 8 by omega)
      have hP1 := (b2.c (Or.inr rfl)).P hP
      have hR1 := (b2.c (Or.inr rfl)).R hR
      have hw1 : wf_F (F.1, [16 * (pg_hd P h).2.2.2 + 7], F.2.2) := ⟨wF.1, fun t ht => by rw [List.mem_singleton] at ht; rw [ht]; exact wt_7 (by omega)⟩
      have hF1 : rc_F M1 103 F := hF.kept (funext fun k => b2 23 103 k (by omega)) (funext fun k => b2 24 103 k (by omega)) (funext fun k => b2 25 103 k (by omega))
      rw [b1, Option.bind_some, if_neg (ni_in (show h < 4 by omega) (by omega)), (hP1.h.2 h (by omega)).2.2.1, sc_fitsAt hP1 hR1 b3 hw1 (by omega), Option.bind_some]
      simp only [bI_0]
      rcases Bool.eq_false_or_eq_true (sp_fat P R (pg_hd P h).2.2.1 (F.1, [16 * (pg_hd P h).2.2.2 + 7], F.2.2)) with e2 | e2
      · rw [if_neg (by rw [e2]; decide), e2]
        obtain ⟨M', c1, c2⟩ := ih (h + 1) n M1 (by omega) (by omega) hP1 hR1 hF1
        rw [c1]
        exact ⟨M', rfl, b2.tr c2⟩
      · rw [if_pos e2, e2]
        exact ⟨M1, rfl, b2⟩
    · rw [decide_eq_false e, if_pos rfl]
      obtain ⟨M', c1, c2⟩ := ih (h + 1) n M (by omega) (by omega) hP hR hF
      rw [c1]
      exact ⟨M', rfl, c2⟩
theorem sc_handlersFit {P : sp_P} {M : zm_M} (hwP : wf_P P) {p : Nat} {F : sp_F} {R : List sp_W} (hp : p < 50) (wF : wf_F F) (hP : rc_P P M) (hR : rc_R P M R) (hF : rc_F M 103 F) : ∃ M', fn_ck_handlersFit [.inr (34, 0), .inl (nI p)] M = some (bI (sp_hds P R p F 0 (pg_han P).length), M') ∧ zo_F 104 M M' := by
  have h4 : (pg_han P).length ≤ 4 := hwP.2.2.2.2.2.2.2.1
  rw [eq_ck_handlersFit, show (1073741824 : Nat) = 1073741823 + 1 from rfl, eq_ck_handlersFit_0, nz_0]
  exact sc_hf_lp hwP hp wF (pg_han P).length 0 (1073741823 + 1) M (by omega) (by omega) hP hR hF
theorem sc_jumpFits {P : sp_P} {M : zm_M} (hwP : wf_P P) {p : Nat} {F : sp_F} {R : List sp_W} (hp : p < pg_n P) (wF : wf_F F) (hP : rc_P P M) (hR : rc_R P M R) (hF : rc_F M 103 F) : fn_ck_jumpFits [.inr (34, 0), .inl (nI p)] M = some (bI (!(sp_jmp (pg_op P p) && !sp_fat P R (pg_b P p) F)), M) := by
  have h50 := hwP.n
  have hI := wf_at hwP hp
  have h40 : pg_op P p < 40 := hI.1
  rw [eq_ck_jumpFits, nI_clamp (by omega)]
  simp only [nz_0, nz_1, nz_2, nz_3, nz_4, nz_5, nz_6, nz_7, nz_8, nz_9, nz_10, nz_11, nz_12, nz_13, nz_14, nz_15, nz_16, nz_17, nz_18, nz_19, nz_20, nz_21, nz_22, nz_23, nz_24, nz_25, nz_26, nz_27, nz_28, nz_29, nz_30, nz_31, nz_32, nz_33, nz_34, nz_35, nz_36, nz_37, nz_38, nz_39, nz_40, nz_41, nz_42, nz_43, nz_44, nz_45, nz_46, nz_47, nz_48, nz_49, nz_50, nz_51, nz_63, nz_64, nz_66, nz_127, nz_128, nz_246, nz_247, nz_248, nz_250, nz_251, nz_252, nz_254, nz_255, nz_256, nz_400, nz_2500]
  simp only [if_neg (ni_in (show p < 50 by omega) (show p < 2 ^ 31 by omega))]
  rw [(hP.i p hp).1, sc_isJump (by omega), Option.bind_some]
  simp only [bI_0]
  rcases Bool.eq_false_or_eq_true (sp_jmp (pg_op P p)) with e | e
  · have hb : pg_b P p < 50 := by
      unfold sp_jmp at e
      rw [Bool.and_eq_true, decide_eq_true_eq, decide_eq_true_eq] at e
      exact hI.2.2.1 e.1 e.2
    rw [if_neg (by rw [e]; decide), (hP.i p hp).2.2, sc_fitsAt hP hR hF wF hb, Option.bind_some, e]
    simp only [bI_0]
    rcases Bool.eq_false_or_eq_true (sp_fat P R (pg_b P p) F) with e2 | e2
    · rw [if_neg (by rw [e2]; decide), e2]
      rfl
    · rw [if_pos e2, e2]
      rfl
  · rw [if_pos e, e]
    rfl
theorem sc_firstBad_lp {P : sp_P} (hwP : wf_P P) {R : List sp_W} : ∀ (k p n : Nat) (M : zm_M) (o : Bool) (F : sp_F), p + k = pg_n P → k < n → rc_P P M → rc_R P M R → (o = true → rc_F M 103 F ∧ wf_F F) → ∃ M', rr_ck_firstBad n 15 [some (.inr (34, 0)), some (.inl (bI o)), some (.inl (nI p))] [] M = some (sp_ckf P R k p o F, M') ∧ zo_c M M' := by
  have h50 := hwP.n
  intro k
  induction k with
  | zero =>
    intro p n M o F hk hn hP hR hF
    obtain ⟨n, rfl⟩ : ∃ q, n = q + 1 := ⟨n - 1, by omega⟩
    have h9 : M 5 0 9 = nI (pg_n P) := hP.2.2.2.2.2.2.1
    rw [eq_ck_firstBad_15, h9, if_neg (ni_nl (by omega) (by omega) (by omega)), nz_0, nz_2]
    cases o with
    | false => exact ⟨M, rfl, zo_c.rf⟩
    | true => exact ⟨M, rfl, zo_c.rf⟩
  | succ k ih =>
    intro p n M o F hk hn hP hR hF
    obtain ⟨n, rfl⟩ : ∃ q, n = q + 1 := ⟨n - 1, by omega⟩
    have h9 : M 5 0 9 = nI (pg_n P) := hP.2.2.2.2.2.2.1
    rw [eq_ck_firstBad_15, h9, if_pos (ni_lt (by omega) (by omega) (by omega))]
    obtain ⟨M1, a1, a2, a3⟩ := sc_begins (p := p) hP hR hF (by omega)
    rw [a1, Option.bind_some]
    simp only [nz_0, nz_1, nz_2, nz_3, nz_4, nz_5, nz_6, nz_7, nz_8, nz_9, nz_10, nz_11, nz_12, nz_13, nz_14, nz_15, nz_16, nz_17, nz_18, nz_19, nz_20, nz_21, nz_22, nz_23, nz_24, nz_25, nz_26, nz_27, nz_28, nz_29, nz_30, nz_31, nz_32, nz_33, nz_34, nz_35, nz_36, nz_37, nz_38, nz_39, nz_40, nz_41, nz_42, nz_43, nz_44, nz_45, nz_46, nz_47, nz_48, nz_49, nz_50, nz_51, nz_63, nz_64, nz_66, nz_127, nz_128, nz_246, nz_247, nz_248, nz_250, nz_251, nz_252, nz_254, nz_255, nz_256, nz_400, nz_2500, bI_0, nI_add]
    have hsp : sp_ckf P R (k + 1) p o F = match sp_ck1 P R p o F with
      | none => nI p
      | some F' => sp_ckf P R k (p + 1) (!sp_end (pg_op P p)) F' := rfl
    rw [hsp]
    unfold sp_ck1
    cases hbg : sp_bg P R p o F with
    | none =>
      rw [if_pos (by rfl)]
      exact ⟨M1, rfl, a2⟩
    | some F1 =>
      obtain ⟨hF1, wF1⟩ := a3 F1 hbg
      have hP1 := a2.P hP
      have hR1 := a2.R hR
      rw [if_neg (by rw [Option.isSome_some]; decide)]
      obtain ⟨M2, b1, b2⟩ := sc_handlersFit hwP (p := p) (by omega) wF1 hP1 hR1 hF1
      rw [b1, Option.bind_some, Option.bind_some]
      simp only [bI_0]
      rcases Bool.eq_false_or_eq_true (sp_hds P R p F1 0 (pg_han P).length) with e | e
      rotate_left
      · rw [if_pos e, if_neg (by rw [e]; decide)]
        exact ⟨M2, rfl, a2.tr (b2.c (by omega))⟩
      · have hP2 := (b2.c (Or.inr rfl)).P hP1
        have hR2 := (b2.c (Or.inr rfl)).R hR1
        have hF2 : rc_F M2 103 F1 := hF1.kept (funext fun k => b2 23 103 k (by omega)) (funext fun k => b2 24 103 k (by omega)) (funext fun k => b2 25 103 k (by omega))
        obtain ⟨M3, c1, c2, c3⟩ := st_step (f := 103) (p := p) hwP hP2 hF2 wF1 (by omega)
        rw [if_neg (by rw [e]; decide), if_pos e, c1, Option.bind_some]
        simp only [bI_0]
        have z3 := (a2.tr (b2.c (Or.inr rfl))).tr (c2.c (Or.inl rfl))
        cases hst : sp_stp P p F1 with
        | none =>
          rw [if_pos (by rfl)]
          exact ⟨M3, rfl, z3⟩
        | some F2 =>
          obtain ⟨hF3, wF3⟩ := c3 F2 hst
          have hP3 := (c2.c (Or.inl rfl)).P hP2
          have hR3 := (c2.c (Or.inl rfl)).R hR2
          have h40 : pg_op P p < 40 := (wf_at hwP (show p < pg_n P by omega)).1
          rw [if_neg (by rw [Option.isSome_some]; decide), sc_jumpFits hwP (by omega) wF3 hP3 hR3 hF3, Option.bind_some, Option.bind_some]
          simp only [bI_0]
          rcases Bool.eq_false_or_eq_true (sp_jmp (pg_op P p) && !sp_fat P R (pg_b P p) F2) with e2 | e2
          · rw [if_pos (by rw [e2]; rfl), if_pos e2]
            exact ⟨M3, rfl, z3⟩
          · rw [if_neg (by rw [e2]; decide), if_neg (show ¬ (sp_jmp (pg_op P p) && !sp_fat P R (pg_b P p) F2) = true by rw [e2]; decide), nI_clamp (by omega), if_neg (ni_in (show p < 50 by omega) (by omega)), (hP3.i p (by omega)).1, sc_isEnd (by omega), Option.bind_some]
            simp only [bI_0]
            obtain ⟨M4, d1, d2⟩ := ih (p + 1) n M3 (!sp_end (pg_op P p)) F2 (by omega) (by omega) hP3 hR3 (fun _ => ⟨hF3, wF3⟩)
            rcases Bool.eq_false_or_eq_true (sp_end (pg_op P p)) with e3 | e3
            · rw [if_neg (by rw [e3]; decide)]
              rw [e3] at d1
              rw [show nI 0 = bI (!true) from rfl, d1, e3]
              exact ⟨M4, rfl, z3.tr d2⟩
            · rw [if_pos e3]
              rw [e3] at d1
              rw [show nI 1 = bI (!false) from rfl, d1, e3]
              exact ⟨M4, rfl, z3.tr d2⟩
theorem sc_firstBad {P : sp_P} (hwP : wf_P P) {R : List sp_W} {M : zm_M} (hP : rc_P P M) (hR : rc_R P M R) : ∃ M', fn_ck_firstBad [.inr (34, 0)] M = some (sp_ckf P R (pg_n P) 0 true (sp_fst P), M') ∧ zo_c M M' := by
  have h50 := hwP.n
  obtain ⟨M1, a1, a2, a3⟩ := sc_enter (f := 103) hwP hP
  rw [eq_ck_firstBad, show (1073741824 : Nat) = 1073741823 + 1 from rfl, eq_ck_firstBad_0, a1, Option.bind_some]
  obtain ⟨M2, b1, b2⟩ := sc_firstBad_lp hwP (pg_n P) 0 (1073741823 + 1) M1 true (sp_fst P) (by omega) (by omega) ((a2.c (Or.inl rfl)).P hP) ((a2.c (Or.inl rfl)).R hR) (fun _ => ⟨a3, (fst_ok hwP).1⟩)
  rw [nz_1, nz_0, show nI 1 = bI true from rfl, b1]
  exact ⟨M2, rfl, (a2.c (Or.inl rfl)).tr b2⟩
