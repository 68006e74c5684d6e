/-! the reference: one row read -/
theorem sl_tk_le (X : List Nat) (m : Nat) : sp_sl (X.take m) ≤ sp_sl X := by
  have e : sp_sl X = sp_sl (X.take m) + sp_sl (X.drop m) := by
    conv => lhs; rw [← List.take_append_drop m X]
    exact sl_app _ _
  omega
theorem rm_X.tk {M : zm_M} {X : List Nat} (h : rm_X M X) {m : Nat} (hm : m ≤ X.length) : rm_X (zm_up M 35 0 37 (nI m)) (X.take m) := by
  have hl : (X.take m).length = m := by rw [List.length_take]; omega
  refine ⟨by rw [hl]; exact zu_e, by rw [hl]; exact Nat.le_trans hm h.2.1, ?_, fun t ht => h.2.2.2 t (List.mem_of_mem_take ht)⟩
  intro i hi
  rw [hl] at hi
  rw [zu_s (by decide), h.2.2.1 i (by omega), List.getD_eq_getElem?_getD, List.getD_eq_getElem?_getD, List.getElem?_take, if_pos hi]
theorem rm_F.l37 {M : zm_M} {F : sp_F} {x : Int32} (h : rm_F M F) : rm_F (zm_up M 35 0 37 x) F := by
  unfold rm_F at h ⊢
  rw [zu_s (by decide), zu_s (by decide), zu_k (by decide), zu_k (by decide)]
  exact h
theorem rm_B.l37 {M : zm_M} {B : List Nat} {x : Int32} (h : rm_B M B) : rm_B (zm_up M 35 0 37 x) B := ⟨by rw [zu_k (by decide)]; exact h.1, fun i hi => by rw [zu_s (by decide)]; exact h.2 i hi⟩
theorem ms_s.tk {M : zm_M} {B X L T : List Nat} {b : Bool} {D : List Nat} (h : ms_s M B X L T b D) {m : Nat} (hm : m ≤ X.length) : ms_s (zm_up M 35 0 37 (nI m)) B (X.take m) L T b D := by
  obtain ⟨h1, h2, h3, h4, h5, h6, h7, h8⟩ := h
  exact ⟨h1.l37, h2.k (zu_k (by decide)) (zu_k (by decide)), h3, h4.tk hm, fun t ht => h5 t (List.mem_of_mem_take ht), Nat.le_trans (sl_tk_le X m) h6, h7.l37, h8⟩
theorem ms_w.tk {M : zm_M} {B X : List Nat} {br : Bool} (h : ms_w M B br) (hX : rm_X M X) {m : Nat} (hm : m ≤ X.length) : ms_w (zm_up M 35 0 37 (nI m)) B br := by
  obtain ⟨h1, ⟨D, h2, h3⟩, -, F, h7, h8⟩ := h
  exact ⟨h1.l37, ⟨D, h2.k (zu_k (by decide)) (zu_k (by decide)), h3⟩, ⟨_, hX.tk hm⟩, F, h7.l37, h8⟩
theorem ms_w.br {M : zm_M} {B : List Nat} {br : Bool} (h : ms_w M B br) : ms_w (zm_up M 35 0 42 (nI 1)) B true := by
  obtain ⟨D, w2, w2'⟩ := h.2.1
  exact (zo_t.u (k := 42) (x := nI 1) (by omega)).w h w2.br w2'
theorem ms_w.un {M : zm_M} {B : List Nat} {br : Bool} (h : ms_w M B br) (x : Int32) : ms_w (zm_up (zm_up (zm_up M 35 0 37 x) 35 0 42 (nI 1)) 35 0 37 (nI 0)) B true := by
  have e : zm_up (zm_up (zm_up M 35 0 37 x) 35 0 42 (nI 1)) 35 0 37 (nI 0) = zm_up (zm_up M 35 0 42 (nI 1)) 35 0 37 (nI 0) := by
    funext s i k
    by_cases e : k = 37
    · subst e
      by_cases es : s = 35
      · subst es
        by_cases ei : i = 0
        · subst ei
          rw [zu_e, zu_e]
        · rw [zu_i ei, zu_i ei, zu_i ei, zu_i ei, zu_i ei]
      · rw [zu_s es, zu_s es, zu_s es, zu_s es, zu_s es]
    · rw [zu_k e, zu_k e]
      by_cases e2 : k = 42
      · subst e2
        by_cases es : s = 35
        · subst es
          by_cases ei : i = 0
          · subst ei
            rw [zu_e, zu_e]
          · rw [zu_i ei, zu_i ei, zu_i ei]
        · rw [zu_s es, zu_s es, zu_s es]
      · rw [zu_k e2, zu_k e2, zu_k e]
  rw [e]
  exact h.br.nil
theorem so_r166 {c : Nat} (hc : c < 255) {v2 v3 : Int32} {o4 : Option zm_V} {n : Nat} (M : zm_M) : rr_mo_readForm (n + 1) 166 [some (.inr (35, 0)), some (.inl (nI c)), some (.inl v2), some (.inl v3), o4] [] M = some (v2, M) := by
  rw [eq_mo_readForm_166, nz_255, if_neg (ni_ne (by omega) (by omega) (by omega)), eq_mo_readForm_177]
theorem so_r125 {c : Nat} (hc : c < 252) {v2 : Int32} {o3 o4 : Option zm_V} {n : Nat} (M : zm_M) : rr_mo_readForm (n + 1) 125 [some (.inr (35, 0)), some (.inl (nI c)), some (.inl v2), o3, o4] [] M = some (v2, M) := by
  rw [eq_mo_readForm_125, eq_mo_readForm_129, nz_251, if_neg (ni_nl (by omega) (by omega) (by omega)), so_r166 (by omega)]
theorem so_r81 {c : Nat} (hc : c < 256) (hn : ¬ (248 ≤ c ∧ c ≤ 250)) {v2 : Int32} {o3 o4 : Option zm_V} {n : Nat} (M : zm_M) : rr_mo_readForm (n + 1) 81 [some (.inr (35, 0)), some (.inl (nI c)), some (.inl v2), o3, o4] [] M = rr_mo_readForm (n + 1) 125 [some (.inr (35, 0)), some (.inl (nI c)), some (.inl v2), o3, o4] [] M := by
  rw [eq_mo_readForm_81]
  simp only [nz_0, nz_1, nz_2, nz_3, nz_4, nz_5, nz_6, nz_7, nz_8, nz_9, nz_10, nz_11, nz_12, nz_13, nz_14, nz_15, nz_16, nz_17, nz_18, nz_19, nz_20, nz_21, nz_22, nz_23, nz_24, nz_25, nz_26, nz_27, nz_28, nz_29, nz_30, nz_31, nz_32, nz_33, nz_34, nz_35, nz_36, nz_37, nz_38, nz_39, nz_40, nz_41, nz_42, nz_43, nz_44, nz_45, nz_46, nz_47, nz_48, nz_49, nz_50, nz_51, nz_63, nz_64, nz_66, nz_127, nz_128, nz_246, nz_247, nz_248, nz_250, nz_251, nz_252, nz_254, nz_255, nz_256, nz_400, nz_2500]
  rw [so_in (by omega) (by omega) (by omega)]
  simp only [Option.bind_some, bI_0]
  rw [if_pos (by rw [Bool.and_eq_false_iff, decide_eq_false_iff_not, decide_eq_false_iff_not]; omega)]
theorem so_r81n {c : Nat} (hc : c < 248) {v2 : Int32} {o3 o4 : Option zm_V} {n : Nat} (M : zm_M) : rr_mo_readForm (n + 1) 81 [some (.inr (35, 0)), some (.inl (nI c)), some (.inl v2), o3, o4] [] M = some (v2, M) := by
  rw [so_r81 (by omega) (by omega), so_r125 (by omega)]
theorem so_r129w {c : Nat} (hc : 250 < c) (hc2 : c < 256) {M : zm_M} {B : List Nat} (hl : B.length ≤ 400) {v2 v3 : Int32} {o4 : Option zm_V} {n : Nat} (h : ms_w M B true) : ∃ M', rr_mo_readForm (n + 1) 129 [some (.inr (35, 0)), some (.inl (nI c)), some (.inl v2), some (.inl v3), o4] [] M = some (v2, M') ∧ zo_I M M' ∧ ms_w M' B true := by
  rw [eq_mo_readForm_129, h.f]
  simp only [nz_0, nz_1, nz_2, nz_3, nz_4, nz_5, nz_6, nz_7, nz_8, nz_9, nz_10, nz_11, nz_12, nz_13, nz_14, nz_15, nz_16, nz_17, nz_18, nz_19, nz_20, nz_21, nz_22, nz_23, nz_24, nz_25, nz_26, nz_27, nz_28, nz_29, nz_30, nz_31, nz_32, nz_33, nz_34, nz_35, nz_36, nz_37, nz_38, nz_39, nz_40, nz_41, nz_42, nz_43, nz_44, nz_45, nz_46, nz_47, nz_48, nz_49, nz_50, nz_51, nz_63, nz_64, nz_66, nz_127, nz_128, nz_246, nz_247, nz_248, nz_250, nz_251, nz_252, nz_254, nz_255, nz_256, nz_400, nz_2500]
  rw [if_neg (show ¬ bI true = nI 0 by decide), ite_self, ite_self, eq_mo_readForm_166]
  simp only [nz_0, nz_1, nz_2, nz_3, nz_4, nz_5, nz_6, nz_7, nz_8, nz_9, nz_10, nz_11, nz_12, nz_13, nz_14, nz_15, nz_16, nz_17, nz_18, nz_19, nz_20, nz_21, nz_22, nz_23, nz_24, nz_25, nz_26, nz_27, nz_28, nz_29, nz_30, nz_31, nz_32, nz_33, nz_34, nz_35, nz_36, nz_37, nz_38, nz_39, nz_40, nz_41, nz_42, nz_43, nz_44, nz_45, nz_46, nz_47, nz_48, nz_49, nz_50, nz_51, nz_63, nz_64, nz_66, nz_127, nz_128, nz_246, nz_247, nz_248, nz_250, nz_251, nz_252, nz_254, nz_255, nz_256, nz_400, nz_2500]
  by_cases e : c = 255
  · subst e
    obtain ⟨M', a1, a2, a3⟩ := sm_full_w hl h
    rw [if_pos rfl, a1, Option.bind_some, eq_mo_readForm_177]
    exact ⟨M', rfl, a2, a3⟩
  · rw [if_neg (ni_ne e (by omega) (by omega)), eq_mo_readForm_177]
    exact ⟨M, rfl, zo_I.rf, h⟩
theorem so_r129 {c : Nat} (hc : 251 ≤ c) (hc2 : c < 255) {B L T : List Nat} {b : Bool} (hl : B.length ≤ 400) {v2 : Int32} : ∀ (k i n : Nat) (M : zm_M) (X D : List Nat) (o4 : Option zm_V), i + k = c → k < n → ms_s M B X L T b D → ∃ M', rr_mo_readForm n 129 [some (.inr (35, 0)), some (.inl (nI c)), some (.inl v2), some (.inl (nI i)), o4] [] M = some (v2, M') ∧ zo_I M M' ∧ (sp_rl k X D = none → ms_w M' B true) ∧ ∀ X' D', sp_rl k X D = some (X', D') → ms_s M' B X' L T b D' := by
  intro k
  induction k with
  | zero =>
    intro i n M X D o4 hk hn h
    obtain ⟨n, rfl⟩ : ∃ q, n = q + 1 := ⟨n - 1, by omega⟩
    rw [eq_mo_readForm_129, if_neg (ni_nl (by omega) (by omega) (by omega)), so_r166 hc2]
    refine ⟨M, rfl, zo_I.rf, fun q => (by cases q), ?_⟩
    intro X' D' q
    cases q
    exact h
  | succ k ih =>
    intro i n M X D o4 hk hn h
    obtain ⟨n, rfl⟩ : ∃ q, n = q + 1 := ⟨n - 1, by omega⟩
    obtain ⟨M1, t, M2, a1, a2, a3, a4, a5⟩ := sm_ls hl h
    rw [eq_mo_readForm_129, if_pos (ni_lt (by omega) (by omega) (by omega)), h.f]
    simp only [nz_0, nz_1, nz_2, nz_3, nz_4, nz_5, nz_6, nz_7, nz_8, nz_9, nz_10, nz_11, nz_12, nz_13, nz_14, nz_15, nz_16, nz_17, nz_18, nz_19, nz_20, nz_21, nz_22, nz_23, nz_24, nz_25, nz_26, nz_27, nz_28, nz_29, nz_30, nz_31, nz_32, nz_33, nz_34, nz_35, nz_36, nz_37, nz_38, nz_39, nz_40, nz_41, nz_42, nz_43, nz_44, nz_45, nz_46, nz_47, nz_48, nz_49, nz_50, nz_51, nz_63, nz_64, nz_66, nz_127, nz_128, nz_246, nz_247, nz_248, nz_250, nz_251, nz_252, nz_254, nz_255, nz_256, nz_400, nz_2500, nI_add]
    rw [if_pos (ni_lt hc2 (by omega) (by omega)), if_pos trivial, a1, Option.bind_some, a2, Option.bind_some, sp_rl_s]
    cases hrl : sp_rl 1 X D with
    | none =>
      obtain ⟨n, rfl⟩ : ∃ q, n = q + 1 := ⟨n - 1, by omega⟩
      obtain ⟨M3, b1, b2, b3⟩ := so_r129w (v2 := v2) (v3 := nI (i + 1)) (o4 := some (.inl (nI t))) (n := n) (show 250 < c by omega) (by omega) hl (a4 hrl)
      rw [b1]
      exact ⟨M3, rfl, a3.tr b2, fun _ => b3, fun X' D' q => by cases q⟩
    | some q =>
      obtain ⟨X1, D1⟩ := q
      obtain ⟨M3, b1, b2, b3, b4⟩ := ih (i + 1) n M2 X1 D1 (some (.inl (nI t))) (by omega) (by omega) (a5 X1 D1 hrl)
      rw [b1]
      exact ⟨M3, rfl, a3.tr b2, b3, b4⟩
theorem so_r25 {c : Nat} (hc : c < 247) {s0 : Int32} {o2 o3 o4 : Option zm_V} {n : Nat} (M : zm_M) : rr_mo_readForm (n + 1) 25 [some (.inr (35, 0)), some (.inl (nI c)), o2, o3, o4] [.inl s0] M = if c < 64 then some (s0, M) else if c < 128 then (fn_mo_stackNext [.inr (35, 0)] M).bind fun q => some (s0, q) else some (s0, zm_up M 35 0 42 (nI 1)) := by
  have h59 : ∀ N, rr_mo_readForm (n + 1) 59 [some (.inr (35, 0)), some (.inl (nI c)), some (.inl s0), o3, o4] [] N = if 64 ≤ c ∧ c < 128 then (fn_mo_stackNext [.inr (35, 0)] N).bind fun q => some (s0, q) else some (s0, N) := by
    intro N
    rw [eq_mo_readForm_59]
    simp only [nz_0, nz_1, nz_2, nz_3, nz_4, nz_5, nz_6, nz_7, nz_8, nz_9, nz_10, nz_11, nz_12, nz_13, nz_14, nz_15, nz_16, nz_17, nz_18, nz_19, nz_20, nz_21, nz_22, nz_23, nz_24, nz_25, nz_26, nz_27, nz_28, nz_29, nz_30, nz_31, nz_32, nz_33, nz_34, nz_35, nz_36, nz_37, nz_38, nz_39, nz_40, nz_41, nz_42, nz_43, nz_44, nz_45, nz_46, nz_47, nz_48, nz_49, nz_50, nz_51, nz_63, nz_64, nz_66, nz_127, nz_128, nz_246, nz_247, nz_248, nz_250, nz_251, nz_252, nz_254, nz_255, nz_256, nz_400, nz_2500]
    rw [so_in (by omega) (by omega) (by omega)]
    simp only [Option.bind_some, bI_0]
    by_cases e : 64 ≤ c ∧ c < 128
    · rw [if_neg (by rw [Bool.and_eq_false_iff, decide_eq_false_iff_not, decide_eq_false_iff_not]; omega), if_pos e, eq_mo_readForm_77]
      simp only [so_r81n (show c < 248 by omega)]
    · rw [if_pos (by rw [Bool.and_eq_false_iff, decide_eq_false_iff_not, decide_eq_false_iff_not]; omega), if_neg e, if_neg (ni_ne (by omega) (by omega) (by omega)), so_r81n (by omega)]
  rw [eq_mo_readForm_25]
  simp only [nz_0, nz_1, nz_2, nz_3, nz_4, nz_5, nz_6, nz_7, nz_8, nz_9, nz_10, nz_11, nz_12, nz_13, nz_14, nz_15, nz_16, nz_17, nz_18, nz_19, nz_20, nz_21, nz_22, nz_23, nz_24, nz_25, nz_26, nz_27, nz_28, nz_29, nz_30, nz_31, nz_32, nz_33, nz_34, nz_35, nz_36, nz_37, nz_38, nz_39, nz_40, nz_41, nz_42, nz_43, nz_44, nz_45, nz_46, nz_47, nz_48, nz_49, nz_50, nz_51, nz_63, nz_64, nz_66, nz_127, nz_128, nz_246, nz_247, nz_248, nz_250, nz_251, nz_252, nz_254, nz_255, nz_256, nz_400, nz_2500]
  rw [so_in (by omega) (by omega) (by omega)]
  simp only [Option.bind_some, bI_0]
  by_cases e : c < 128
  · rw [if_pos (by rw [Bool.and_eq_false_iff, decide_eq_false_iff_not, decide_eq_false_iff_not]; omega), if_neg (ni_nl (by omega) (by omega) (by omega)), h59]
    by_cases e2 : c < 64
    · rw [if_neg (by omega), if_pos e2]
    · rw [if_pos (by omega), if_neg e2, if_pos e]
  · rw [if_neg (by rw [Bool.and_eq_false_iff, decide_eq_false_iff_not, decide_eq_false_iff_not]; omega), h59, if_neg (by omega), if_neg (by omega), if_neg e]
theorem so_r25b {c : Nat} (hc : 247 ≤ c) (hc2 : c < 256) {s0 : Int32} {o2 o3 o4 : Option zm_V} {n : Nat} (M : zm_M) {v : Int32} {M1 : zm_M} (h1 : fn_mo_twoNext [.inr (35, 0)] M = some (v, M1)) : rr_mo_readForm (n + 1) 25 [some (.inr (35, 0)), some (.inl (nI c)), o2, o3, o4] [.inl s0] M = if c = 247 then (fn_mo_stackNext [.inr (35, 0)] M1).bind fun q => some (v, q) else rr_mo_readForm (n + 1) 81 [some (.inr (35, 0)), some (.inl (nI c)), some (.inl v), o3, o4] [] M1 := by
  rw [eq_mo_readForm_25]
  simp only [nz_0, nz_1, nz_2, nz_3, nz_4, nz_5, nz_6, nz_7, nz_8, nz_9, nz_10, nz_11, nz_12, nz_13, nz_14, nz_15, nz_16, nz_17, nz_18, nz_19, nz_20, nz_21, nz_22, nz_23, nz_24, nz_25, nz_26, nz_27, nz_28, nz_29, nz_30, nz_31, nz_32, nz_33, nz_34, nz_35, nz_36, nz_37, nz_38, nz_39, nz_40, nz_41, nz_42, nz_43, nz_44, nz_45, nz_46, nz_47, nz_48, nz_49, nz_50, nz_51, nz_63, nz_64, nz_66, nz_127, nz_128, nz_246, nz_247, nz_248, nz_250, nz_251, nz_252, nz_254, nz_255, nz_256, nz_400, nz_2500]
  rw [so_in (by omega) (by omega) (by omega)]
  simp only [Option.bind_some, bI_0]
  rw [if_pos (by rw [Bool.and_eq_false_iff, decide_eq_false_iff_not, decide_eq_false_iff_not]; omega), if_pos (ni_lt (by omega) (by omega) (by omega)), h1, Option.bind_some, eq_mo_readForm_59]
  simp only [nz_0, nz_1, nz_2, nz_3, nz_4, nz_5, nz_6, nz_7, nz_8, nz_9, nz_10, nz_11, nz_12, nz_13, nz_14, nz_15, nz_16, nz_17, nz_18, nz_19, nz_20, nz_21, nz_22, nz_23, nz_24, nz_25, nz_26, nz_27, nz_28, nz_29, nz_30, nz_31, nz_32, nz_33, nz_34, nz_35, nz_36, nz_37, nz_38, nz_39, nz_40, nz_41, nz_42, nz_43, nz_44, nz_45, nz_46, nz_47, nz_48, nz_49, nz_50, nz_51, nz_63, nz_64, nz_66, nz_127, nz_128, nz_246, nz_247, nz_248, nz_250, nz_251, nz_252, nz_254, nz_255, nz_256, nz_400, nz_2500]
  rw [so_in (by omega) (by omega) (by omega)]
  simp only [Option.bind_some, bI_0]
  rw [if_pos (by rw [Bool.and_eq_false_iff, decide_eq_false_iff_not, decide_eq_false_iff_not]; omega)]
  by_cases e : c = 247
  · subst e
    rw [if_pos rfl, if_pos rfl, eq_mo_readForm_77]
    simp only [so_r81n (show 247 < 248 by omega)]
  · rw [if_neg (ni_ne e (by omega) (by omega)), if_neg e]
theorem nI_un : ∀ b, b < 4 → ∀ a, a < b → nI a - nI b < nI 0 := by decide
/-- behind the DELTA, broken -/
theorem so_r81w {c : Nat} (hc : 248 ≤ c) (hc2 : c < 256) {M : zm_M} {B : List Nat} (hl : B.length ≤ 400) {v2 : Int32} {o3 o4 : Option zm_V} {n : Nat} (h : ms_w M B true) : ∃ M', rr_mo_readForm (n + 1) 81 [some (.inr (35, 0)), some (.inl (nI c)), some (.inl v2), o3, o4] [] M = some (v2, M') ∧ zo_I M M' ∧ ms_w M' B true := by
  by_cases e : c ≤ 250
  · obtain ⟨X, hX⟩ := h.2.2.1
    have hXl := hX.2.1
    rw [eq_mo_readForm_81]
    simp only [nz_0, nz_1, nz_2, nz_3, nz_4, nz_5, nz_6, nz_7, nz_8, nz_9, nz_10, nz_11, nz_12, nz_13, nz_14, nz_15, nz_16, nz_17, nz_18, nz_19, nz_20, nz_21, nz_22, nz_23, nz_24, nz_25, nz_26, nz_27, nz_28, nz_29, nz_30, nz_31, nz_32, nz_33, nz_34, nz_35, nz_36, nz_37, nz_38, nz_39, nz_40, nz_41, nz_42, nz_43, nz_44, nz_45, nz_46, nz_47, nz_48, nz_49, nz_50, nz_51, nz_63, nz_64, nz_66, nz_127, nz_128, nz_246, nz_247, nz_248, nz_250, nz_251, nz_252, nz_254, nz_255, nz_256, nz_400, nz_2500]
    rw [so_in (by omega) (by omega) (by omega)]
    simp only [Option.bind_some, bI_0]
    rw [if_neg (by rw [Bool.and_eq_false_iff, decide_eq_false_iff_not, decide_eq_false_iff_not]; omega), hX.1, pk_sub (by omega), so_r125 (by omega), so_r125 (by omega)]
    by_cases ex : 251 - c ≤ X.length
    · rw [pk_sub ex, if_neg (ni_nl (by omega) (by omega) (by omega))]
      exact ⟨_, rfl, zo_I.u (by omega), h.tk hX (by omega)⟩
    · rw [if_pos (nI_un _ (by omega) _ (by omega))]
      exact ⟨_, rfl, ((zo_I.u (by omega)).tr (zo_I.u (by omega))).tr (zo_I.u (by omega)), h.un _⟩
  · rw [so_r81 hc2 (by omega), eq_mo_readForm_125]
    exact so_r129w (by omega) hc2 hl h
/-- behind the DELTA -/
theorem so_r81s {c : Nat} (hc : 248 ≤ c) (hc2 : c < 256) {M : zm_M} {B X L D : List Nat} {b : Bool} (hl : B.length ≤ 400) {v2 : Int32} {o3 o4 : Option zm_V} (h : ms_s M B X L [] b D) : ∃ M', rr_mo_readForm (1073741823 + 1) 81 [some (.inr (35, 0)), some (.inl (nI c)), some (.inl v2), o3, o4] [] M = some (v2, M') ∧ zo_I M M' ∧ (sp_rest c X D = none → ms_w M' B true) ∧ ∀ X' T' D', sp_rest c X D = some (X', T', D') → ms_s M' B X' L T' b D' := by
  by_cases e : c ≤ 250
  · have hX := h.2.2.2.1
    have hXl := hX.2.1
    rw [eq_mo_readForm_81]
    simp only [nz_0, nz_1, nz_2, nz_3, nz_4, nz_5, nz_6, nz_7, nz_8, nz_9, nz_10, nz_11, nz_12, nz_13, nz_14, nz_15, nz_16, nz_17, nz_18, nz_19, nz_20, nz_21, nz_22, nz_23, nz_24, nz_25, nz_26, nz_27, nz_28, nz_29, nz_30, nz_31, nz_32, nz_33, nz_34, nz_35, nz_36, nz_37, nz_38, nz_39, nz_40, nz_41, nz_42, nz_43, nz_44, nz_45, nz_46, nz_47, nz_48, nz_49, nz_50, nz_51, nz_63, nz_64, nz_66, nz_127, nz_128, nz_246, nz_247, nz_248, nz_250, nz_251, nz_252, nz_254, nz_255, nz_256, nz_400, nz_2500]
    rw [so_in (by omega) (by omega) (by omega)]
    simp only [Option.bind_some, bI_0]
    rw [if_neg (by rw [Bool.and_eq_false_iff, decide_eq_false_iff_not, decide_eq_false_iff_not]; omega), hX.1, pk_sub (by omega), so_r125 (by omega), so_r125 (by omega)]
    have hr : sp_rest c X D = if 251 - c ≤ X.length then some (X.take (X.length - (251 - c)), [], D) else none := by
      unfold sp_rest
      rw [if_neg (by omega), if_neg (by omega), if_pos (by omega)]
    rw [hr]
    by_cases ex : 251 - c ≤ X.length
    · rw [pk_sub ex, if_neg (ni_nl (by omega) (by omega) (by omega))]
      simp only [if_pos ex]
      refine ⟨_, rfl, zo_I.u (by omega), fun q => (by cases q), ?_⟩
      intro X' T' D' q
      cases q
      exact h.tk (by omega)
    · rw [if_pos (nI_un _ (by omega) _ (by omega))]
      simp only [if_neg ex]
      exact ⟨_, rfl, ((zo_I.u (by omega)).tr (zo_I.u (by omega))).tr (zo_I.u (by omega)), fun _ => h.w.un _, fun X' T' D' q => by cases q⟩
  · rw [so_r81 hc2 (by omega), eq_mo_readForm_125]
    by_cases e5 : c = 255
    · subst e5
      obtain ⟨M', a1, a2, a3, a4⟩ := sm_full hl h
      rw [eq_mo_readForm_129]
      simp only [nz_0, nz_1, nz_2, nz_3, nz_4, nz_5, nz_6, nz_7, nz_8, nz_9, nz_10, nz_11, nz_12, nz_13, nz_14, nz_15, nz_16, nz_17, nz_18, nz_19, nz_20, nz_21, nz_22, nz_23, nz_24, nz_25, nz_26, nz_27, nz_28, nz_29, nz_30, nz_31, nz_32, nz_33, nz_34, nz_35, nz_36, nz_37, nz_38, nz_39, nz_40, nz_41, nz_42, nz_43, nz_44, nz_45, nz_46, nz_47, nz_48, nz_49, nz_50, nz_51, nz_63, nz_64, nz_66, nz_127, nz_128, nz_246, nz_247, nz_248, nz_250, nz_251, nz_252, nz_254, nz_255, nz_256, nz_400, nz_2500]
      rw [if_pos (show nI 251 < nI 255 by decide), if_neg (show ¬ nI 255 < nI 255 by decide), eq_mo_readForm_166]
      simp only [nz_0, nz_1, nz_2, nz_3, nz_4, nz_5, nz_6, nz_7, nz_8, nz_9, nz_10, nz_11, nz_12, nz_13, nz_14, nz_15, nz_16, nz_17, nz_18, nz_19, nz_20, nz_21, nz_22, nz_23, nz_24, nz_25, nz_26, nz_27, nz_28, nz_29, nz_30, nz_31, nz_32, nz_33, nz_34, nz_35, nz_36, nz_37, nz_38, nz_39, nz_40, nz_41, nz_42, nz_43, nz_44, nz_45, nz_46, nz_47, nz_48, nz_49, nz_50, nz_51, nz_63, nz_64, nz_66, nz_127, nz_128, nz_246, nz_247, nz_248, nz_250, nz_251, nz_252, nz_254, nz_255, nz_256, nz_400, nz_2500]
      rw [if_pos trivial, a1, Option.bind_some, eq_mo_readForm_177]
      exact ⟨M', rfl, a2, a3, a4⟩
    · obtain ⟨M', a1, a2, a3, a4⟩ := so_r129 (show 251 ≤ c by omega) (by omega) hl (v2 := v2) (c - 251) 251 (1073741823 + 1) M X D o4 (by omega) (by omega) h
      rw [nz_251, a1]
      unfold sp_rest
      rw [if_neg (by omega), if_neg e5, if_neg (by omega)]
      refine ⟨M', rfl, a2, ?_, ?_⟩
      · intro q
        exact a3 (Option.map_eq_none_iff.mp q)
      · intro X' T' D' q
        rw [Option.map_eq_some_iff] at q
        obtain ⟨⟨X1, D1⟩, q1, q2⟩ := q
        cases q2
        exact a4 X1 D1 q1
theorem sm_form {M : zm_M} {B X L D : List Nat} {b : Bool} {c : Nat} (hl : B.length ≤ 400) (hc : c < 256) (h : ms_s M B X L [] b D) : ∃ M' d, fn_mo_readForm [.inr (35, 0), .inl (nI c)] M = some (nI d, M') ∧ d < 65536 ∧ zo_I M M' ∧ (sp_ro c X D = none → ms_w M' B true) ∧ ∀ X' T d' D', sp_ro c X D = some (X', T, d', D') → d = d' ∧ ms_s M' B X' L T b D' := by
  rw [eq_mo_readForm, show (1073741824 : Nat) = 1073741823 + 1 from rfl, eq_mo_readForm_0]
  simp only [nz_0, nz_1, nz_2, nz_3, nz_4, nz_5, nz_6, nz_7, nz_8, nz_9, nz_10, nz_11, nz_12, nz_13, nz_14, nz_15, nz_16, nz_17, nz_18, nz_19, nz_20, nz_21, nz_22, nz_23, nz_24, nz_25, nz_26, nz_27, nz_28, nz_29, nz_30, nz_31, nz_32, nz_33, nz_34, nz_35, nz_36, nz_37, nz_38, nz_39, nz_40, nz_41, nz_42, nz_43, nz_44, nz_45, nz_46, nz_47, nz_48, nz_49, nz_50, nz_51, nz_63, nz_64, nz_66, nz_127, nz_128, nz_246, nz_247, nz_248, nz_250, nz_251, nz_252, nz_254, nz_255, nz_256, nz_400, nz_2500]
  unfold sp_ro
  by_cases e1 : c < 64
  · rw [if_pos (ni_lt e1 (by omega) (by omega)), so_r25 (by omega), if_pos e1, if_pos (by omega), show c / 64 = 0 by omega, show c % 64 = c by omega]
    refine ⟨M, c, rfl, by omega, zo_I.rf, fun q => (by cases q), ?_⟩
    intro X' T d' D' q
    cases q
    exact ⟨rfl, h⟩
  · rw [if_neg (ni_nl (by omega) (by omega) (by omega))]
    by_cases e2 : c < 128
    · rw [if_pos (ni_lt e2 (by omega) (by omega)), pk_sub (by omega), so_r25 (by omega), if_neg e1, if_pos e2, if_pos e2, show c / 64 = 1 by omega, show c % 64 = c - 64 by omega]
      obtain ⟨M1, a1, a2, -, a4⟩ := sm_sn hl h.w
      obtain ⟨a5, a6⟩ := a4 X L [] b D rfl h
      rw [a1, Option.bind_some]
      refine ⟨M1, c - 64, rfl, by omega, a2, ?_, ?_⟩
      · intro q
        exact a5 (Option.map_eq_none_iff.mp q)
      · intro X' T d' D' q
        rw [Option.map_eq_some_iff] at q
        obtain ⟨⟨T1, D1⟩, q1, q2⟩ := q
        cases q2
        exact ⟨rfl, a6 T1 D1 q1⟩
    · rw [if_neg (ni_nl (by omega) (by omega) (by omega)), if_neg e2]
      by_cases e3 : c < 247
      · rw [so_r25 e3, if_neg e1, if_neg e2, if_pos e3]
        exact ⟨_, 0, rfl, by omega, zo_I.u (by omega), fun _ => h.w.br, fun X' T d' D' q => by cases q⟩
      · rw [if_neg e3]
        obtain ⟨M1, v, a1, a2, a3, a4, a5⟩ := sm_tw hl h
        rw [so_r25b (by omega) hc M a1]
        -- the DELTA is missing
        have miss : D.length < 2 → ∃ M', (if c = 247 then (fn_mo_stackNext [.inr (35, 0)] M1).bind fun q => some (nI v, q) else rr_mo_readForm (1073741823 + 1) 81 [some (.inr (35, 0)), some (.inl (nI c)), some (.inl (nI v)), none, none] [] M1) = some (nI v, M') ∧ zo_I M M' ∧ ms_w M' B true := by
          intro hd
          have w := a4 hd
          by_cases e : c = 247
          · obtain ⟨M2, b1, b2, ⟨b', b3⟩, -⟩ := sm_sn hl w
            rw [if_pos e, b1, Option.bind_some]
            rw [Bool.true_or] at b3
            exact ⟨M2, rfl, a3.tr b2, b3⟩
          · rw [if_neg e]
            obtain ⟨M2, b1, b2, b3⟩ := so_r81w (show 248 ≤ c by omega) hc hl (v2 := nI v) (o3 := none) (o4 := none) (n := 1073741823) w
            exact ⟨M2, b1, a3.tr b2, b3⟩
        match D, a4, a5, miss with
        | [], a4, a5, miss =>
          obtain ⟨M2, b1, b2, b3⟩ := miss (by decide)
          exact ⟨M2, v, b1, a2, b2, fun _ => b3, fun X' T d' D' q => by cases q⟩
        | [x], a4, a5, miss =>
          obtain ⟨M2, b1, b2, b3⟩ := miss (by simp)
          exact ⟨M2, v, b1, a2, b2, fun _ => b3, fun X' T d' D' q => by cases q⟩
        | x :: y :: D, a4, a5, miss =>
          obtain ⟨e4, s⟩ := a5 x y D rfl
          dsimp only
          rw [← e4]
          by_cases e : c = 247
          · obtain ⟨M2, b1, b2, -, b4⟩ := sm_sn hl s.w
            obtain ⟨b5, b6⟩ := b4 X L [] b D rfl s
            rw [if_pos e, b1, Option.bind_some]
            unfold sp_rest
            rw [if_pos e]
            refine ⟨M2, v, rfl, a2, a3.tr b2, ?_, ?_⟩
            · intro q
              exact b5 (Option.map_eq_none_iff.mp (Option.map_eq_none_iff.mp q))
            · intro X' T d' D' q
              rw [Option.map_eq_some_iff] at q
              obtain ⟨⟨X1, T1, D1⟩, q1, q2⟩ := q
              cases q2
              rw [Option.map_eq_some_iff] at q1
              obtain ⟨⟨T2, D2⟩, q3, q4⟩ := q1
              cases q4
              exact ⟨rfl, b6 T2 D2 q3⟩
          · rw [if_neg e]
            obtain ⟨M2, b1, b2, b3, b4⟩ := so_r81s (show 248 ≤ c by omega) hc hl (v2 := nI v) (o3 := none) (o4 := none) s
            refine ⟨M2, v, b1, a2, a3.tr b2, ?_, ?_⟩
            · intro q
              exact b3 (Option.map_eq_none_iff.mp q)
            · intro X' T d' D' q
              rw [Option.map_eq_some_iff] at q
              obtain ⟨⟨X1, T1, D1⟩, q1, q2⟩ := q
              cases q2
              exact ⟨rfl, b4 X1 T1 D1 q1⟩
