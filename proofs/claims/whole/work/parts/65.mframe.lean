/-! THE REFERENCE: its METHOD, its FRAME -/
def rm_P (P : sp_P) (M : zm_M) : Prop := rm_C P M ∧ M 35 0 2 = nI (pg_own P) ∧ M 35 0 3 = nI (pg_mode P) ∧ M 35 0 8 = bI (pg_giv P) ∧ M 35 0 4 = nI (pg_arg P).length ∧ (∀ i, i < (pg_arg P).length → M 38 0 i = nI ((pg_arg P).getD i 0)) ∧ M 35 0 5 = nI (pg_n P) ∧ (∀ p, p < pg_n P → M 39 0 p = nI (pg_op P p) ∧ M 40 0 p = nI (pg_a P p) ∧ M 41 0 p = nI (pg_b P p)) ∧ M 35 0 6 = nI (pg_han P).length ∧ ∀ h, h < (pg_han P).length → M 42 0 h = nI (pg_hd P h).1 ∧ M 43 0 h = nI (pg_hd P h).2.1 ∧ M 44 0 h = nI (pg_hd P h).2.2.1 ∧ M 45 0 h = nI (pg_hd P h).2.2.2
theorem rm_P.n {P : sp_P} {M : zm_M} (h : rm_P P M) : M 35 0 5 = nI (pg_n P) := h.2.2.2.2.2.2.1
theorem rm_P.i {P : sp_P} {M : zm_M} (h : rm_P P M) : ∀ p, p < pg_n P → M 39 0 p = nI (pg_op P p) ∧ M 40 0 p = nI (pg_a P p) ∧ M 41 0 p = nI (pg_b P p) := h.2.2.2.2.2.2.2.1
theorem rm_P.h {P : sp_P} {M : zm_M} (h : rm_P P M) : M 35 0 6 = nI (pg_han P).length ∧ ∀ h, h < (pg_han P).length → M 42 0 h = nI (pg_hd P h).1 ∧ M 43 0 h = nI (pg_hd P h).2.1 ∧ M 44 0 h = nI (pg_hd P h).2.2.1 ∧ M 45 0 h = nI (pg_hd P h).2.2.2 := h.2.2.2.2.2.2.2.2
theorem rm_P.kept {P : sp_P} {M M' : zm_M} (h : rm_P P M) (hk : ∀ s, 35 < s → s < 46 → M' s = M s) (hk2 : ∀ k, k < 9 → M' 35 0 k = M 35 0 k) : rm_P P M' := by
  unfold rm_P rm_C at h ⊢
  rw [hk 36 (by decide) (by decide), hk 37 (by decide) (by decide), hk 38 (by decide) (by decide), hk 39 (by decide) (by decide), hk 40 (by decide) (by decide), hk 41 (by decide) (by decide), hk 42 (by decide) (by decide), hk 43 (by decide) (by decide), hk 44 (by decide) (by decide), hk 45 (by decide) (by decide), hk2 2 (by decide), hk2 3 (by decide), hk2 4 (by decide), hk2 5 (by decide), hk2 6 (by decide), hk2 8 (by decide)]
  exact h
def rm_F (M : zm_M) (F : sp_F) : Prop := rp (M 47 0) (M 48 0) (M 35 0 20) (M 35 0 21) F ∧ sp_sl F.2.1 ≤ 8
/-- only the reference's FRAME is another -/
def zo_M (M M' : zm_M) : Prop := ∀ s i k, ¬ (s = 35 ∧ (k = 20 ∨ k = 21)) → s ≠ 47 → s ≠ 48 → M' s i k = M s i k
theorem zo_M.rf {M : zm_M} : zo_M M M := fun _ _ _ _ _ _ => rfl
theorem zo_M.tr {M M1 M2 : zm_M} (h : zo_M M M1) (h2 : zo_M M1 M2) : zo_M M M2 := fun s i k a b c => (h2 s i k a b c).trans (h s i k a b c)
theorem zo_M.s {M M' : zm_M} (h : zo_M M M') {s : Nat} (h5 : s ≠ 35) (h7 : s ≠ 47) (h8 : s ≠ 48) : M' s = M s := by
  funext i k
  exact h s i k (by omega) h7 h8
theorem zo_M.P {M M' : zm_M} {P : sp_P} (h : zo_M M M') (hP : rm_P P M) : rm_P P M' := hP.kept (fun s h1 h2 => h.s (by omega) (by omega) (by omega)) (fun k hk => h 35 0 k (by omega) (by decide) (by decide))
theorem zo_M.d {M : zm_M} {x : Int32} : zo_M M (zm_up M 35 0 20 x) := by
  intro s i k a b c
  by_cases h : s = 35
  · rw [zu_k (by omega)]
  · rw [zu_s h]
theorem zo_M.r {M : zm_M} {x : Int32} : zo_M M (zm_up M 35 0 21 x) := by
  intro s i k a b c
  by_cases h : s = 35
  · rw [zu_k (by omega)]
  · rw [zu_s h]
theorem zo_M.l {M : zm_M} {j : Nat} {x : Int32} : zo_M M (zm_up M 47 0 j x) := fun s i k a b c => by rw [zu_s b]
theorem zo_M.t {M : zm_M} {j : Nat} {x : Int32} : zo_M M (zm_up M 48 0 j x) := fun s i k a b c => by rw [zu_s c]
def sm_R (M : zm_M) (res : Option (Int32 × zm_M)) (o : Option sp_F) : Prop := ∃ M', res = some (bI o.isSome, M') ∧ zo_M M M' ∧ ∀ F', o = some F' → rm_F M' F' ∧ wf_F F'
theorem sm_R.no {M M' : zm_M} (h : zo_M M M') : sm_R M (some (nI 0, M')) none := ⟨M', rfl, h, fun F' q => by cases q⟩
theorem sm_R.yes {M M' : zm_M} {F : sp_F} (h : zo_M M M') (h1 : rm_F M' F) (h2 : wf_F F) : sm_R M (some (nI 1, M')) (some F) := ⟨M', rfl, h, fun F' q => by cases q; exact ⟨h1, h2⟩⟩
theorem sm_R.b {M : zm_M} {res : Option (Int32 × zm_M)} {o : Option sp_F} (h : sm_R M res o) : sm_R M (res.bind fun q => if q.1 = nI 0 ∨ q.1 = nI 1 then some (q.1, q.2) else none) o := by
  obtain ⟨M', h1, h2⟩ := h
  rw [st_01 (fun q hq => by rw [h1] at hq; cases hq; exact bI_01 _)]
  exact ⟨M', h1, h2⟩
theorem sm_R.n {M : zm_M} {res : Option (Int32 × zm_M)} {o : Option sp_F} (h : sm_R M res o) : sm_R M (res.bind fun q => if q.1 = nI 0 then some (nI 0, q.2) else some (nI 1, q.2)) o := by
  obtain ⟨M', h1, h2⟩ := h
  exact ⟨M', st_bind h1, h2⟩
theorem rm_len {M : zm_M} {F : sp_F} (h : rm_F M F) : F.2.1.length ≤ 8 := Nat.le_trans (sp_sl_len _) h.2
theorem sm_top {M : zm_M} {F : sp_F} (h : rm_F M F) {a : Nat} (ha : a < 8) : fn_mo_top [.inr (35, 0), .inl (nI (a + 1))] M = some (vz F.2.1[a]?, M) := by
  have hl := rm_len h
  have hd : M 35 0 20 = nI F.2.1.length := h.1.2.2.1
  rw [eq_mo_top, hd]
  simp only [nz_0, nz_1, nz_2, nz_3, nz_4, nz_5, nz_6, nz_7, nz_8, nz_9, nz_10, nz_11, nz_12, nz_13, nz_14, nz_15, nz_16, nz_17, nz_18, nz_19, nz_20, nz_21, nz_22, nz_23, nz_24, nz_25, nz_26, nz_27, nz_28, nz_29, nz_30, nz_31, nz_32, nz_33, nz_34, nz_35, nz_36, nz_37, nz_38, nz_39, nz_40, nz_41, nz_42, nz_43, nz_44, nz_45, nz_46, nz_47, nz_48, nz_49, nz_50, nz_51, nz_63, nz_64, nz_66, nz_127, nz_128, nz_246, nz_247, nz_248, nz_250, nz_251, nz_252, nz_254, nz_255, nz_256, nz_400, nz_2500]
  by_cases e : F.2.1.length < a + 1
  · rw [if_pos (ni_lt e (by omega) (by omega)), List.getElem?_eq_none (by omega)]
    rfl
  · rw [if_neg (ni_nl (by omega) (by omega) (by omega)), pk_sub (by omega), nI_clamp (by omega), if_neg (ni_in (by omega) (by omega)), h.1.2.2.2.1 _ (by omega), List.getElem?_eq_getElem (by omega)]
    have : F.2.1.length - 1 - (F.2.1.length - (a + 1)) = a := by omega
    rw [this, List.getD_eq_getElem?_getD, List.getElem?_eq_getElem (by omega)]
    rfl
theorem sl_rev (T : List Nat) : sp_sl T.reverse = sp_sl T := by
  unfold sp_sl
  rw [List.map_reverse, List.sum_reverse]
theorem sl_app (A B : List Nat) : sp_sl (A ++ B) = sp_sl A + sp_sl B := by
  unfold sp_sl
  rw [List.map_append, List.sum_append]
theorem sl_take (A : List Nat) {i : Nat} (h : i < A.length) : sp_sl (A.take (i + 1)) = sp_sl (A.take i) + sp_wd (A.getD i 0) := by
  rw [List.take_add_one, List.getElem?_eq_getElem h, sl_app, List.getD_eq_getElem?_getD, List.getElem?_eq_getElem h]
  rfl
theorem sm_slots_lp {M : zm_M} {A : List Nat} (h8 : A.length ≤ 8) (hd : M 35 0 20 = nI A.length) (hM : ∀ i, i < A.length → M 48 0 i = nI (A.getD i 0)) (hw : ∀ t ∈ A, sp_wt t) : ∀ (k i n : Nat), i + k = A.length → k < n → rr_mo_slots n 4 [some (.inr (35, 0)), some (.inl (nI (sp_sl (A.take i)))), some (.inl (nI i))] [] M = some (nI (sp_sl A), M) := by
  intro k
  induction k with
  | zero =>
    intro i n hk hn
    obtain ⟨n, rfl⟩ : ∃ m, n = m + 1 := ⟨n - 1, by omega⟩
    rw [eq_mo_slots_4, hd, if_neg (ni_nl (by omega) (by omega) (by omega)), List.take_of_length_le (by omega)]
  | succ k ih =>
    intro i n hk hn
    obtain ⟨n, rfl⟩ : ∃ m, n = m + 1 := ⟨n - 1, by omega⟩
    have hwl := sp_wt_lt (wt_gd hw i)
    have hwd := sp_wd_le (A.getD i 0)
    rw [eq_mo_slots_4, hd, if_pos (ni_lt (by omega) (by omega) (by omega)), nI_clamp (by omega)]
    simp only [nz_0, nz_1, nz_2, nz_3, nz_4, nz_5, nz_6, nz_7, nz_8, nz_9, nz_10, nz_11, nz_12, nz_13, nz_14, nz_15, nz_16, nz_17, nz_18, nz_19, nz_20, nz_21, nz_22, nz_23, nz_24, nz_25, nz_26, nz_27, nz_28, nz_29, nz_30, nz_31, nz_32, nz_33, nz_34, nz_35, nz_36, nz_37, nz_38, nz_39, nz_40, nz_41, nz_42, nz_43, nz_44, nz_45, nz_46, nz_47, nz_48, nz_49, nz_50, nz_51, nz_63, nz_64, nz_66, nz_127, nz_128, nz_246, nz_247, nz_248, nz_250, nz_251, nz_252, nz_254, nz_255, nz_256, nz_400, nz_2500, nI_add]
    rw [if_neg (ni_in (show i < 9 by omega) (by omega)), hM i (by omega), so_wide (by omega)]
    simp only [Option.bind_some, bI_0]
    have ih := ih (i + 1) n (by omega) (by omega)
    rw [sl_take A (by omega)] at ih
    by_cases e : sp_wd (A.getD i 0) = 2
    · rw [if_neg (by rw [e]; decide)]
      rw [e] at ih
      exact ih
    · have e1 : sp_wd (A.getD i 0) = 1 := by omega
      rw [if_pos (by rw [e1]; rfl)]
      rw [e1] at ih
      exact ih
theorem sm_slots {M : zm_M} {F : sp_F} (h : rm_F M F) (hw : wf_F F) : fn_mo_slots [.inr (35, 0)] M = some (nI (sp_sl F.2.1), M) := by
  have hl := rm_len h
  rw [eq_mo_slots, show (1073741824 : Nat) = 1073741823 + 1 from rfl, eq_mo_slots_0, nz_0, ← sl_rev F.2.1]
  refine sm_slots_lp (A := F.2.1.reverse) (by simpa using hl) ?_ ?_ (by simpa using hw.2) F.2.1.length 0 _ (by simp) (by omega)
  · rw [List.length_reverse]
    exact h.1.2.2.1
  · intro i hi
    rw [List.length_reverse] at hi
    rw [gd_rev hi]
    exact h.1.2.2.2.1 i hi
theorem sm_push {M : zm_M} {t : Nat} {F : sp_F} (h : rm_F M F) (hw : wf_F F) (ht : sp_wt t) : ∃ M', fn_mo_push [.inr (35, 0), .inl (nI t)] M = some (bI (sp_psh t F.2.1).isSome, M') ∧ zo_M M M' ∧ ∀ T', sp_psh t F.2.1 = some T' → rm_F M' (F.1, T', F.2.2) := by
  have hl := rm_len h
  have htl := sp_wt_lt ht
  have hwd := sp_wd_le t
  have hd : M 35 0 20 = nI F.2.1.length := h.1.2.2.1
  have hsl := sp_sl_len F.2.1
  rw [eq_mo_push, sm_slots h hw]
  simp only [Option.bind_some, nz_0, nz_1, nz_2, nz_3, nz_4, nz_5, nz_6, nz_7, nz_8, nz_9, nz_10, nz_11, nz_12, nz_13, nz_14, nz_15, nz_16, nz_17, nz_18, nz_19, nz_20, nz_21, nz_22, nz_23, nz_24, nz_25, nz_26, nz_27, nz_28, nz_29, nz_30, nz_31, nz_32, nz_33, nz_34, nz_35, nz_36, nz_37, nz_38, nz_39, nz_40, nz_41, nz_42, nz_43, nz_44, nz_45, nz_46, nz_47, nz_48, nz_49, nz_50, nz_51, nz_63, nz_64, nz_66, nz_127, nz_128, nz_246, nz_247, nz_248, nz_250, nz_251, nz_252, nz_254, nz_255, nz_256, nz_400, nz_2500, nI_add]
  rw [so_wide (by omega)]
  simp only [Option.bind_some, bI_0]
  rw [hd, nI_add]
  have fin : sp_sl F.2.1 + sp_wd t ≤ 8 → ∃ M', (if nI F.2.1.length < nI 0 ∨ 9 ≤ (nI F.2.1.length).toNatClampNeg then none else some (nI 1, zm_up (zm_up M 48 0 (nI F.2.1.length).toNatClampNeg (nI t)) 35 0 20 (nI (F.2.1.length + 1)))) = some (bI (sp_psh t F.2.1).isSome, M') ∧ zo_M M M' ∧ ∀ T', sp_psh t F.2.1 = some T' → rm_F M' (F.1, T', F.2.2) := by
    intro hs
    have hp : sp_psh t F.2.1 = some (t :: F.2.1) := by
      unfold sp_psh
      rw [if_pos hs]
    rw [nI_clamp (by omega), if_neg (ni_in (by omega) (by omega)), hp]
    refine ⟨_, rfl, zo_M.t.tr zo_M.d, ?_⟩
    intro T' hT
    cases hT
    refine ⟨?_, by show sp_sl (t :: F.2.1) ≤ 8; rw [sp_sl_c]; omega⟩
    have e47 : zm_up (zm_up M 48 0 F.2.1.length (nI t)) 35 0 20 (nI (F.2.1.length + 1)) 47 = M 47 := by rw [zu_s (by decide), zu_s (by decide)]
    have e48 : zm_up (zm_up M 48 0 F.2.1.length (nI t)) 35 0 20 (nI (F.2.1.length + 1)) 48 = zm_up M 48 0 F.2.1.length (nI t) 48 := zu_s (by decide)
    have e20 : zm_up (zm_up M 48 0 F.2.1.length (nI t)) 35 0 20 (nI (F.2.1.length + 1)) 35 0 20 = nI (F.2.1.length + 1) := zu_e
    have e21 : zm_up (zm_up M 48 0 F.2.1.length (nI t)) 35 0 20 (nI (F.2.1.length + 1)) 35 0 21 = M 35 0 21 := by rw [zu_k (by decide), zu_s (by decide)]
    rw [e47, e48, e20, e21]
    refine rp_psh h.1 rfl ?_ ?_
    · exact zu_e
    · intro i hi
      exact zu_k (by omega)
  have fail : ¬ sp_sl F.2.1 + sp_wd t ≤ 8 → ∃ M', some (nI 0, M) = some (bI (sp_psh t F.2.1).isSome, M') ∧ zo_M M M' ∧ ∀ T', sp_psh t F.2.1 = some T' → rm_F M' (F.1, T', F.2.2) := by
    intro hs
    have hp : sp_psh t F.2.1 = none := by
      unfold sp_psh
      rw [if_neg hs]
    rw [hp]
    exact ⟨M, rfl, zo_M.rf, fun T' q => by cases q⟩
  have h8 := h.2
  by_cases e : sp_wd t = 2
  · rw [if_neg (by simp [e])]
    by_cases e8 : sp_sl F.2.1 + 2 ≤ 8
    · rw [if_neg (ni_nl e8 (by omega) (by omega))]
      exact fin (by omega)
    · rw [if_pos (ni_lt (by omega) (by omega) (by omega))]
      exact fail (by omega)
  · rw [if_pos (by simp [e])]
    by_cases e8 : sp_sl F.2.1 + 1 ≤ 8
    · rw [if_neg (ni_nl e8 (by omega) (by omega))]
      exact fin (by omega)
    · rw [if_pos (ni_lt (by omega) (by omega) (by omega))]
      exact fail (by omega)
theorem sm_psh {M M0 : zm_M} {t : Nat} {L T : List Nat} {b : Bool} (h0 : zo_M M0 M) (h : rm_F M (L, T, b)) (hw : wf_F (L, T, b)) (ht : sp_wt t) : sm_R M0 (fn_mo_push [.inr (35, 0), .inl (nI t)] M) ((sp_psh t T).map fun T => (L, T, b)) := by
  obtain ⟨M', h1, h2, h3⟩ := sm_push h hw ht
  rw [h1]
  cases hp : sp_psh t T with
  | none => exact sm_R.no (h0.tr h2)
  | some T' =>
    have hT : T' = t :: T := by
      unfold sp_psh at hp
      split at hp
      · cases hp; rfl
      · cases hp
    subst hT
    exact sm_R.yes (h0.tr h2) (h3 _ hp) (wf_cons hw ht)
/-- depth less one, less two -/
theorem rm_drop {M : zm_M} {x : Nat} {L T : List Nat} {b : Bool} (h : rm_F M (L, x :: T, b)) : rm_F (zm_up M 35 0 20 (M 35 0 20 - nI 1)) (L, T, b) := by
  have hd : M 35 0 20 = nI (T.length + 1) := h.1.2.2.1
  refine ⟨?_, sl_t h.2⟩
  rw [zu_s (by decide), zu_s (by decide), zu_e, zu_k (by decide)]
  exact rp_pop h.1 (by rw [hd, pk_sub (by omega)]; rfl)
theorem rm_drop2 {M : zm_M} {x y : Nat} {L T : List Nat} {b : Bool} (h : rm_F M (L, x :: y :: T, b)) : rm_F (zm_up M 35 0 20 (M 35 0 20 - nI 2)) (L, T, b) := by
  have hd : M 35 0 20 = nI (T.length + 2) := h.1.2.2.1
  refine ⟨?_, sl_t (sl_t h.2)⟩
  rw [zu_s (by decide), zu_s (by decide), zu_e, zu_k (by decide)]
  have h1 := rp_pop h.1 (d' := nI (T.length + 1)) rfl
  exact rp_pop h1 (by rw [hd, pk_sub (by omega)]; rfl)
theorem sm_takes1 {M : zm_M} {x : Nat} {L T : List Nat} {b g : Bool} (h : rm_F M (L, x :: T, b)) (hw : wf_F (L, x :: T, b)) : sm_R M (fn_mo_takes [.inr (35, 0), .inl (bI g), .inl (nI 1)] M) (if g then some (L, T, b) else none) := by
  rw [eq_mo_takes]
  simp only [nz_0, nz_1, nz_2, nz_3, nz_4, nz_5, nz_6, nz_7, nz_8, nz_9, nz_10, nz_11, nz_12, nz_13, nz_14, nz_15, nz_16, nz_17, nz_18, nz_19, nz_20, nz_21, nz_22, nz_23, nz_24, nz_25, nz_26, nz_27, nz_28, nz_29, nz_30, nz_31, nz_32, nz_33, nz_34, nz_35, nz_36, nz_37, nz_38, nz_39, nz_40, nz_41, nz_42, nz_43, nz_44, nz_45, nz_46, nz_47, nz_48, nz_49, nz_50, nz_51, nz_63, nz_64, nz_66, nz_127, nz_128, nz_246, nz_247, nz_248, nz_250, nz_251, nz_252, nz_254, nz_255, nz_256, nz_400, nz_2500]
  cases g with
  | true =>
    rw [if_neg (by decide)]
    exact sm_R.yes zo_M.d (rm_drop h) (wf_tail hw)
  | false => exact sm_R.no zo_M.rf
theorem sm_takes2 {M : zm_M} {x y : Nat} {L T : List Nat} {b g : Bool} (h : rm_F M (L, x :: y :: T, b)) (hw : wf_F (L, x :: y :: T, b)) : sm_R M (fn_mo_takes [.inr (35, 0), .inl (bI g), .inl (nI 2)] M) (if g then some (L, T, b) else none) := by
  rw [eq_mo_takes]
  simp only [nz_0, nz_1, nz_2, nz_3, nz_4, nz_5, nz_6, nz_7, nz_8, nz_9, nz_10, nz_11, nz_12, nz_13, nz_14, nz_15, nz_16, nz_17, nz_18, nz_19, nz_20, nz_21, nz_22, nz_23, nz_24, nz_25, nz_26, nz_27, nz_28, nz_29, nz_30, nz_31, nz_32, nz_33, nz_34, nz_35, nz_36, nz_37, nz_38, nz_39, nz_40, nz_41, nz_42, nz_43, nz_44, nz_45, nz_46, nz_47, nz_48, nz_49, nz_50, nz_51, nz_63, nz_64, nz_66, nz_127, nz_128, nz_246, nz_247, nz_248, nz_250, nz_251, nz_252, nz_254, nz_255, nz_256, nz_400, nz_2500]
  cases g with
  | true =>
    rw [if_neg (by decide)]
    exact sm_R.yes zo_M.d (rm_drop2 h) (wf_tail (wf_tail hw))
  | false => exact sm_R.no zo_M.rf
theorem sm_takes0 {M : zm_M} {x : Int32} : sm_R M (fn_mo_takes [.inr (35, 0), .inl (nI 0), .inl x] M) none := by
  rw [eq_mo_takes, nz_0, if_pos rfl]
  exact sm_R.no zo_M.rf
/-- what the questions say of nothing at all -/
theorem so_small_m1 (M : zm_M) : fn_mo_isSmall [.inl (-nI 1)] M = some (nI 0, M) := by
  rw [eq_mo_isSmall]
  simp only [nz_0, nz_1, nz_2, nz_3, nz_4, nz_5, nz_6, nz_7, nz_8, nz_9, nz_10, nz_11, nz_12, nz_13, nz_14, nz_15, nz_16, nz_17, nz_18, nz_19, nz_20, nz_21, nz_22, nz_23, nz_24, nz_25, nz_26, nz_27, nz_28, nz_29, nz_30, nz_31, nz_32, nz_33, nz_34, nz_35, nz_36, nz_37, nz_38, nz_39, nz_40, nz_41, nz_42, nz_43, nz_44, nz_45, nz_46, nz_47, nz_48, nz_49, nz_50, nz_51, nz_63, nz_64, nz_66, nz_127, nz_128, nz_246, nz_247, nz_248, nz_250, nz_251, nz_252, nz_254, nz_255, nz_256, nz_400, nz_2500]
  rw [if_neg (by decide)]
theorem so_wide_m1 (M : zm_M) : fn_mo_isWide [.inl (-nI 1)] M = some (nI 0, M) := by
  rw [eq_mo_isWide]
  simp only [nz_0, nz_1, nz_2, nz_3, nz_4, nz_5, nz_6, nz_7, nz_8, nz_9, nz_10, nz_11, nz_12, nz_13, nz_14, nz_15, nz_16, nz_17, nz_18, nz_19, nz_20, nz_21, nz_22, nz_23, nz_24, nz_25, nz_26, nz_27, nz_28, nz_29, nz_30, nz_31, nz_32, nz_33, nz_34, nz_35, nz_36, nz_37, nz_38, nz_39, nz_40, nz_41, nz_42, nz_43, nz_44, nz_45, nz_46, nz_47, nz_48, nz_49, nz_50, nz_51, nz_63, nz_64, nz_66, nz_127, nz_128, nz_246, nz_247, nz_248, nz_250, nz_251, nz_252, nz_254, nz_255, nz_256, nz_400, nz_2500]
  rw [if_neg (by decide), if_neg (by decide)]
theorem so_pointer_m1 (M : zm_M) : fn_mo_isPointer [.inl (-nI 1)] M = some (nI 0, M) := by
  rw [eq_mo_isPointer]
  simp only [nz_0, nz_1, nz_2, nz_3, nz_4, nz_5, nz_6, nz_7, nz_8, nz_9, nz_10, nz_11, nz_12, nz_13, nz_14, nz_15, nz_16, nz_17, nz_18, nz_19, nz_20, nz_21, nz_22, nz_23, nz_24, nz_25, nz_26, nz_27, nz_28, nz_29, nz_30, nz_31, nz_32, nz_33, nz_34, nz_35, nz_36, nz_37, nz_38, nz_39, nz_40, nz_41, nz_42, nz_43, nz_44, nz_45, nz_46, nz_47, nz_48, nz_49, nz_50, nz_51, nz_63, nz_64, nz_66, nz_127, nz_128, nz_246, nz_247, nz_248, nz_250, nz_251, nz_252, nz_254, nz_255, nz_256, nz_400, nz_2500]
  rw [if_neg (by decide), if_neg (by decide)]
theorem so_ref_m1 (M : zm_M) : fn_mo_isReference [.inl (-nI 1)] M = some (nI 0, M) := by
  rw [eq_mo_isReference, so_pointer_m1]
  simp only [nz_0, nz_1, nz_2, nz_3, nz_4, nz_5, nz_6, nz_7, nz_8, nz_9, nz_10, nz_11, nz_12, nz_13, nz_14, nz_15, nz_16, nz_17, nz_18, nz_19, nz_20, nz_21, nz_22, nz_23, nz_24, nz_25, nz_26, nz_27, nz_28, nz_29, nz_30, nz_31, nz_32, nz_33, nz_34, nz_35, nz_36, nz_37, nz_38, nz_39, nz_40, nz_41, nz_42, nz_43, nz_44, nz_45, nz_46, nz_47, nz_48, nz_49, nz_50, nz_51, nz_63, nz_64, nz_66, nz_127, nz_128, nz_246, nz_247, nz_248, nz_250, nz_251, nz_252, nz_254, nz_255, nz_256, nz_400, nz_2500, Option.bind_some]
  rw [if_pos trivial, if_neg (by decide), if_neg (by decide)]
theorem so_small_v {M : zm_M} {T : List Nat} (hw : ∀ t ∈ T, sp_wt t) (a : Nat) : fn_mo_isSmall [.inl (vz T[a]?)] M = some (bI ((T[a]?).any sp_sm), M) := by
  cases hv : T[a]? with
  | none => exact so_small_m1 M
  | some t => exact so_small (hw t (List.mem_of_getElem? hv)) M
theorem so_pointer_v {M : zm_M} {T : List Nat} (hw : ∀ t ∈ T, sp_wt t) (a : Nat) : fn_mo_isPointer [.inl (vz T[a]?)] M = some (bI ((T[a]?).any sp_op), M) := by
  cases hv : T[a]? with
  | none => exact so_pointer_m1 M
  | some t => exact so_pointer (hw t (List.mem_of_getElem? hv)) M
theorem so_ref_v {M : zm_M} {T : List Nat} (hw : ∀ t ∈ T, sp_wt t) (a : Nat) : fn_mo_isReference [.inl (vz T[a]?)] M = some (bI ((T[a]?).any sp_rf), M) := by
  cases hv : T[a]? with
  | none => exact so_ref_m1 M
  | some t => exact so_ref (hw t (List.mem_of_getElem? hv)) M
theorem so_wide_v {M : zm_M} {T : List Nat} (hw : ∀ t ∈ T, sp_wt t) (a : Nat) : fn_mo_isWide [.inl (vz T[a]?)] M = some (bI ((T[a]?).any fun t => sp_wd t == 2), M) := by
  cases hv : T[a]? with
  | none => exact so_wide_m1 M
  | some t => exact so_wide (by have := sp_wt_lt (hw t (List.mem_of_getElem? hv)); omega) M
