/-! the class reads rows -/
def sp_sp (X : List Nat) : List Nat := (sp_spr X ++ List.replicate 10 0).take 10
theorem spr_sl : ∀ X : List Nat, (sp_spr X).length = sp_sl X
  | [] => rfl
  | t :: X => by
    have := spr_sl X
    have hw := sp_wd_le t
    rw [spr_c, sp_sl_c]
    split
    · simp only [List.length_cons]
      omega
    · simp only [List.length_cons]
      omega
theorem sp_sp_len (X : List Nat) : (sp_sp X).length = 10 := by
  unfold sp_sp
  rw [List.length_take, List.length_append, List.length_replicate]
  omega
theorem sp_sp_wt {X : List Nat} (h : ∀ t ∈ X, sp_wt t) : ∀ t ∈ sp_sp X, sp_wt t := by
  intro t ht
  rcases List.mem_append.mp (List.mem_of_mem_take ht) with q | q
  · exact spr_wt h t q
  · rw [List.mem_replicate] at q
    rw [q.2]
    exact wt_k (by decide)
theorem sp_sp_gd {X : List Nat} {j : Nat} (hj : j < 10) : (sp_sp X).getD j 0 = (sp_spr X).getD j 0 := by
  unfold sp_sp
  rw [List.getD_eq_getElem?_getD, List.getElem?_take, if_pos hj, ← List.getD_eq_getElem?_getD, gd_app]
  split
  · rfl
  · next e =>
    rw [gd_out (show (sp_spr X).length ≤ j by omega), List.getD_eq_getElem?_getD, List.getElem?_replicate]
    split <;> rfl
theorem spr_tk {X : List Nat} {i : Nat} (h : i < X.length) : sp_spr (X.take (i + 1)) = sp_spr (X.take i) ++ sp_spr [X.getD i 0] := by
  rw [List.take_add_one, List.getElem?_eq_getElem h, Option.toList_some, spr_app, List.getD_eq_getElem?_getD, List.getElem?_eq_getElem h]
  rfl
theorem spr_tk_gd {X : List Nat} {i : Nat} (h : i < X.length) (j : Nat) : (sp_spr (X.take (i + 1))).getD j 0 = if j = (sp_spr (X.take i)).length then X.getD i 0 else (sp_spr (X.take i)).getD j 0 := by
  rw [spr_tk h, gd_app]
  split
  · next e => rw [if_neg (by omega)]
  · next e =>
    rw [(spr_1 _).2]
    by_cases e2 : j = (sp_spr (X.take i)).length
    · rw [if_pos (by omega), if_pos e2]
    · rw [if_neg (by omega), if_neg e2, gd_out (by omega)]
theorem sl_tk (X : List Nat) {i : Nat} (h : i < X.length) : sp_sl (X.take i) + sp_wd (X.getD i 0) ≤ sp_sl X := by
  have h1 := sl_take X h
  have h2 : sp_sl (X.take (i + 1)) ≤ sp_sl X := by
    have := List.take_append_drop (i + 1) X
    have e : sp_sl X = sp_sl (X.take (i + 1)) + sp_sl (X.drop (i + 1)) := by
      conv => lhs; rw [← this]
      exact sl_app _ _
    omega
  omega
theorem sc_sp_lp {f : Nat} {X : List Nat} (h10 : sp_sl X ≤ 10) : ∀ (k i n : Nat) (M : zm_M), i + k = X.length → k < n → rc_L M 2 X → (∀ j, j < 10 → M 24 f j = nI ((sp_spr (X.take i)).getD j 0)) → ∃ M', rr_tl_spread n 12 [some (.inr (27, 2)), some (.inr (23, f)), some (.inl (nI (sp_spr (X.take i)).length)), some (.inl (nI i))] [] M = some M' ∧ zo_a 24 f M M' ∧ ∀ j, j < 10 → M' 24 f j = nI ((sp_spr X).getD j 0) := by
  intro k
  induction k with
  | zero =>
    intro i n M hk hn hX hM
    obtain ⟨n, rfl⟩ : ∃ q, n = q + 1 := ⟨n - 1, by omega⟩
    have hl := hX.len
    rw [eq_tl_spread_12, hX.1, if_neg (ni_nl (by omega) (by omega) (by omega))]
    rw [List.take_of_length_le (by omega)] at hM
    exact ⟨M, rfl, zo_a.rf, hM⟩
  | succ k ih =>
    intro i n M hk hn hX hM
    obtain ⟨n, rfl⟩ : ∃ q, n = q + 1 := ⟨n - 1, by omega⟩
    have hl := hX.len
    have hwl := sp_wt_lt (wt_gd hX.2.2.2.2 i)
    have hsl := sl_tk X (show i < X.length by omega)
    have hwd := sp_wd_le (X.getD i 0)
    have hlt : (sp_spr (X.take i)).length < 10 := by rw [spr_sl]; omega
    rw [eq_tl_spread_12, hX.1, if_pos (ni_lt (by omega) (by omega) (by omega)), nI_clamp (by omega), nI_clamp (by omega)]
    simp only [nz_0, nz_1, nz_2, nz_3, nz_4, nz_5, nz_6, nz_7, nz_8, nz_9, nz_10, nz_11, nz_12, nz_13, nz_14, nz_15, nz_16, nz_17, nz_18, nz_19, nz_20, nz_21, nz_22, nz_23, nz_24, nz_25, nz_26, nz_27, nz_28, nz_29, nz_30, nz_31, nz_32, nz_33, nz_34, nz_35, nz_36, nz_37, nz_38, nz_39, nz_40, nz_41, nz_42, nz_43, nz_44, nz_45, nz_46, nz_47, nz_48, nz_49, nz_50, nz_51, nz_63, nz_64, nz_66, nz_127, nz_128, nz_246, nz_247, nz_248, nz_250, nz_251, nz_252, nz_254, nz_255, nz_256, nz_400, nz_2500, nI_add]
    simp only [if_neg (ni_in (show i < 10 by omega) (show i < 2 ^ 31 by omega))]
    rw [if_neg (ni_in hlt (by omega)), hX.2.2.2.1 i (by omega), sc_width (by omega), Option.bind_some, nI_add]
    have hlen : (sp_spr (X.take (i + 1))).length = (sp_spr (X.take i)).length + sp_wd (X.getD i 0) := by
      rw [spr_tk (by omega), List.length_append, (spr_1 _).1]
    rw [← hlen]
    obtain ⟨M', h1, h2, h3⟩ := ih (i + 1) n (zm_up M 24 f (sp_spr (X.take i)).length (nI (X.getD i 0))) (by omega) (by omega) (hX.kept (by rw [zu_s (by decide)]) (by rw [zu_s (by decide)])) (by
      intro j hj
      rw [spr_tk_gd (by omega)]
      by_cases e : j = (sp_spr (X.take i)).length
      · rw [if_pos e, e]
        exact zu_e
      · rw [if_neg e, zu_k e]
        exact hM j hj)
    exact ⟨M', h1, zo_a.up.tr h2, h3⟩
theorem sc_spread {M : zm_M} {f : Nat} {X L T : List Nat} {b : Bool} (hX : rc_L M 2 X) (hF : rc_F M f (L, T, b)) : ∃ M', fn_tl_spread [.inr (27, 2), .inr (23, f)] M = some M' ∧ zo_F f M M' ∧ rc_F M' f (sp_sp X, T, b) := by
  have hl := hX.len
  obtain ⟨M1, a1, a2, a3⟩ := sc_fill (f := f) (x := nI 0) M
  rw [eq_tl_spread, show (1073741824 : Nat) = 1073741823 + 1 from rfl, eq_tl_spread_0]
  simp only [nz_0, nz_1, nz_2, nz_3, nz_4, nz_5, nz_6, nz_7, nz_8, nz_9, nz_10, nz_11, nz_12, nz_13, nz_14, nz_15, nz_16, nz_17, nz_18, nz_19, nz_20, nz_21, nz_22, nz_23, nz_24, nz_25, nz_26, nz_27, nz_28, nz_29, nz_30, nz_31, nz_32, nz_33, nz_34, nz_35, nz_36, nz_37, nz_38, nz_39, nz_40, nz_41, nz_42, nz_43, nz_44, nz_45, nz_46, nz_47, nz_48, nz_49, nz_50, nz_51, nz_63, nz_64, nz_66, nz_127, nz_128, nz_246, nz_247, nz_248, nz_250, nz_251, nz_252, nz_254, nz_255, nz_256, nz_400, nz_2500]
  rw [a1, Option.bind_some]
  obtain ⟨M2, b1, b2, b3⟩ := sc_sp_lp (f := f) hX.2.2.1 X.length 0 (1073741823 + 1) M1 (by omega) (by omega) (hX.kept (by rw [a2.s (by decide)]) (by rw [a2.s (by decide)])) (by
    intro j hj
    rw [a3 j hj]
    rfl)
  have b1 : rr_tl_spread (1073741823 + 1) 12 [some (.inr (27, 2)), some (.inr (23, f)), some (.inl (nI 0)), some (.inl (nI 0))] [] M1 = some M2 := b1
  rw [b1]
  have z := a2.tr b2
  refine ⟨M2, rfl, z.F (by omega), ⟨sp_sp_len X, ?_, ?_, ?_, ?_⟩, ?_, hF.2.2⟩
  · intro j hj
    rw [b3 j hj]
    show _ = nI ((sp_sp X).getD j 0)
    rw [sp_sp_gd hj]
  · rw [z.s (by decide)]
    exact hF.1.2.2.1
  · intro j hj
    rw [z.s (by decide)]
    exact hF.1.2.2.2.1 j hj
  · rw [z.s (by decide)]
    exact hF.1.2.2.2.2
  · rw [z.s (by decide)]
    exact hF.2.1
/-- the FRAME of a row -/
def rw_F (X T : List Nat) : sp_F := (sp_sp X, T, sp_ht (sp_sp X))
theorem sc_rr_end {M : zm_M} {f : Nat} {X L T : List Nat} {b : Bool} {v2 : Int32} {s : Bool} (hX : rc_L M 2 X) (hF : rc_F M f (L, T, b)) : ∃ M', rr_re_readRow (0 + 1) 104 [some (.inr (29, 0)), some (.inr (23, f)), some (.inl v2), some (.inl (bI s))] [] M = some (bI s, M') ∧ zo_F f M M' ∧ rc_F M' f (rw_F X T) := by
  obtain ⟨M1, a1, a2, a3⟩ := sc_spread hX hF
  have hw := sp_sp_wt hX.2.2.2.2
  rw [eq_re_readRow_104, a1, Option.bind_some, sc_hasRaw (sp_sp_len X) a3.1.2.1 (fun t ht => by have := sp_wt_lt (hw t ht); omega), Option.bind_some]
  simp only [nz_0, nz_1, nz_2, nz_3, nz_4, nz_5, nz_6, nz_7, nz_8, nz_9, nz_10, nz_11, nz_12, nz_13, nz_14, nz_15, nz_16, nz_17, nz_18, nz_19, nz_20, nz_21, nz_22, nz_23, nz_24, nz_25, nz_26, nz_27, nz_28, nz_29, nz_30, nz_31, nz_32, nz_33, nz_34, nz_35, nz_36, nz_37, nz_38, nz_39, nz_40, nz_41, nz_42, nz_43, nz_44, nz_45, nz_46, nz_47, nz_48, nz_49, nz_50, nz_51, nz_63, nz_64, nz_66, nz_127, nz_128, nz_246, nz_247, nz_248, nz_250, nz_251, nz_252, nz_254, nz_255, nz_256, nz_400, nz_2500]
  rw [if_pos (bI_01 _), if_pos (bI_01 _)]
  have := rc_raw (c := sp_ht (sp_sp X)) a3
  exact ⟨_, rfl, a2.tr this.2, this.1⟩
/-- what stands behind a DELTA of two bytes -/
theorem sc_rrest {M : zm_M} {f c : Nat} {B D X L : List Nat} {b : Bool} (hl : B.length ≤ 400) (hc1 : 247 ≤ c) (hc2 : c < 256) (hB : rc_W M 0 B) (hD : rd_C M B D) (hb : ∀ x ∈ D, x < 256) (hF : rc_F M f (L, [], b)) (hX : rc_L M 2 X) : ∃ M', fn_re_readRest [.inr (29, 0), .inl (nI c), .inr (23, f)] M = some (bI (sp_rest c X D).isSome, M') ∧ zo_x f M M' ∧ (∃ X' T', rc_L M' 2 X' ∧ rc_F M' f (L, T', b)) ∧ ∀ X' T' D', sp_rest c X D = some (X', T', D') → rc_L M' 2 X' ∧ rc_F M' f (L, T', b) ∧ rd_C M' B D' ∧ (∀ t ∈ T', sp_wt t) ∧ ∀ x ∈ D', x < 256 := by
  have hnil : ∀ t ∈ ([] : List Nat), sp_wt t := fun t ht => by cases ht
  rw [eq_re_readRest, show ∀ lo Q, rr_re_readRest 1 0 lo [] Q = rr_re_readRest (0 + 1) 0 lo [] Q from fun _ _ => rfl, eq_re_readRest_0]
  simp only [nz_0, nz_1, nz_2, nz_3, nz_4, nz_5, nz_6, nz_7, nz_8, nz_9, nz_10, nz_11, nz_12, nz_13, nz_14, nz_15, nz_16, nz_17, nz_18, nz_19, nz_20, nz_21, nz_22, nz_23, nz_24, nz_25, nz_26, nz_27, nz_28, nz_29, nz_30, nz_31, nz_32, nz_33, nz_34, nz_35, nz_36, nz_37, nz_38, nz_39, nz_40, nz_41, nz_42, nz_43, nz_44, nz_45, nz_46, nz_47, nz_48, nz_49, nz_50, nz_51, nz_63, nz_64, nz_66, nz_127, nz_128, nz_246, nz_247, nz_248, nz_250, nz_251, nz_252, nz_254, nz_255, nz_256, nz_400, nz_2500]
  unfold sp_rest
  by_cases e1 : c = 247
  · rw [if_pos (by rw [e1])]
    simp only [if_pos e1]
    obtain ⟨M1, a1, a2, a3, ⟨T0, D0, a4, a5⟩, a6⟩ := sc_rstack (f := f) (m := 1) hl (by omega) hB hD hb hF hnil hX
    rw [a1, Option.bind_some]
    dsimp only
    rw [if_pos (bI_01 _)]
    refine ⟨M1, by rw [Option.isSome_map], a2, ⟨X, T0, a3, a4⟩, ?_⟩
    intro X' T' D' h
    rw [Option.map_eq_some_iff] at h
    obtain ⟨⟨T1, D1⟩, h1, h2⟩ := h
    cases h2
    obtain ⟨k1, k2, k3, k4⟩ := a6 T1 D1 h1
    exact ⟨a3, k1, k2, k3, k4⟩
  · rw [if_neg (ni_ne e1 (by omega) (by omega))]
    simp only [if_neg e1]
    by_cases e2 : c = 255
    · rw [if_pos (by rw [e2])]
      simp only [if_pos e2]
      obtain ⟨M1, a1, a2, a3⟩ := sc_tl_empty (M := M) (f := 2)
      obtain ⟨M2, b1, b2, b3⟩ := sc_rtwo (a2.W2 hB) hl (a2.rd hD) hb
      have hX2 := b2.L a3
      have hF2 := b2.F (a2.F2 hF)
      have hB2 := b2.W (a2.W2 hB)
      have z2 : zo_x f M M2 := a2.x.tr b2.x
      rw [a1, Option.bind_some, b1, Option.bind_some]
      match D, hb, b3 with
      | [], _, b3 =>
        dsimp only
        rw [sc_rlist_m1, Option.bind_some, if_pos rfl, eq_re_readRest_55, eq_re_readRest_56]
        simp only [nz_0, nz_1, nz_2, nz_3, nz_4, nz_5, nz_6, nz_7, nz_8, nz_9, nz_10, nz_11, nz_12, nz_13, nz_14, nz_15, nz_16, nz_17, nz_18, nz_19, nz_20, nz_21, nz_22, nz_23, nz_24, nz_25, nz_26, nz_27, nz_28, nz_29, nz_30, nz_31, nz_32, nz_33, nz_34, nz_35, nz_36, nz_37, nz_38, nz_39, nz_40, nz_41, nz_42, nz_43, nz_44, nz_45, nz_46, nz_47, nz_48, nz_49, nz_50, nz_51, nz_63, nz_64, nz_66, nz_127, nz_128, nz_246, nz_247, nz_248, nz_250, nz_251, nz_252, nz_254, nz_255, nz_256, nz_400, nz_2500]
        rw [if_pos (Or.inl trivial)]
        exact ⟨M2, rfl, z2, ⟨[], [], hX2, hF2⟩, fun X' T' D' h => by cases h⟩
      | [x], _, b3 =>
        dsimp only
        rw [sc_rlist_m1, Option.bind_some, if_pos rfl, eq_re_readRest_55, eq_re_readRest_56]
        simp only [nz_0, nz_1, nz_2, nz_3, nz_4, nz_5, nz_6, nz_7, nz_8, nz_9, nz_10, nz_11, nz_12, nz_13, nz_14, nz_15, nz_16, nz_17, nz_18, nz_19, nz_20, nz_21, nz_22, nz_23, nz_24, nz_25, nz_26, nz_27, nz_28, nz_29, nz_30, nz_31, nz_32, nz_33, nz_34, nz_35, nz_36, nz_37, nz_38, nz_39, nz_40, nz_41, nz_42, nz_43, nz_44, nz_45, nz_46, nz_47, nz_48, nz_49, nz_50, nz_51, nz_63, nz_64, nz_66, nz_127, nz_128, nz_246, nz_247, nz_248, nz_250, nz_251, nz_252, nz_254, nz_255, nz_256, nz_400, nz_2500]
        rw [if_pos (Or.inl trivial)]
        exact ⟨M2, rfl, z2, ⟨[], [], hX2, hF2⟩, fun X' T' D' h => by cases h⟩
      | h2 :: l2 :: D, hb, b3 =>
        have hh := hb h2 (by simp)
        have hl2 := hb l2 (by simp)
        have hb' : ∀ x ∈ D, x < 256 := fun x hx => hb x (by simp [hx])
        have b3 : rd_C M2 B D := b3
        dsimp only
        obtain ⟨M3, c1, c2, c3, ⟨X3, D3, c4, c4'⟩, c5⟩ := sc_rlist (f := f) (m := 256 * h2 + l2) hl (by omega) hB2 b3 hb' hF2 hX2
        rw [c1, Option.bind_some]
        simp only [bI_0]
        have z3 := z2.tr c2
        cases hrl : sp_rl (256 * h2 + l2) [] D with
        | none =>
          rw [if_pos (by rfl), eq_re_readRest_55, eq_re_readRest_56]
          simp only [nz_0, nz_1, nz_2, nz_3, nz_4, nz_5, nz_6, nz_7, nz_8, nz_9, nz_10, nz_11, nz_12, nz_13, nz_14, nz_15, nz_16, nz_17, nz_18, nz_19, nz_20, nz_21, nz_22, nz_23, nz_24, nz_25, nz_26, nz_27, nz_28, nz_29, nz_30, nz_31, nz_32, nz_33, nz_34, nz_35, nz_36, nz_37, nz_38, nz_39, nz_40, nz_41, nz_42, nz_43, nz_44, nz_45, nz_46, nz_47, nz_48, nz_49, nz_50, nz_51, nz_63, nz_64, nz_66, nz_127, nz_128, nz_246, nz_247, nz_248, nz_250, nz_251, nz_252, nz_254, nz_255, nz_256, nz_400, nz_2500]
          rw [if_pos (Or.inl trivial)]
          exact ⟨M3, rfl, z3, ⟨X3, [], c4, c3⟩, fun X' T' D' h => by cases h⟩
        | some q =>
          obtain ⟨X4, D4⟩ := q
          obtain ⟨k1, k2, k3⟩ := c5 X4 D4 hrl
          rw [if_neg (by rw [Option.isSome_some]; decide)]
          obtain ⟨M4, d1, d2, d3⟩ := sc_rtwo (z3.W hB) hl k2 k3
          have hX4 := d2.L k1
          have hF4 := d2.F c3
          have z4 : zo_x f M M4 := z3.tr d2.x
          rw [d1, Option.bind_some, Option.bind_some]
          match D4, k3, d3 with
          | [], _, d3 =>
            dsimp only
            rw [sc_rstack_m1, Option.bind_some, if_pos rfl, eq_re_readRest_55, eq_re_readRest_56]
            simp only [nz_0, nz_1, nz_2, nz_3, nz_4, nz_5, nz_6, nz_7, nz_8, nz_9, nz_10, nz_11, nz_12, nz_13, nz_14, nz_15, nz_16, nz_17, nz_18, nz_19, nz_20, nz_21, nz_22, nz_23, nz_24, nz_25, nz_26, nz_27, nz_28, nz_29, nz_30, nz_31, nz_32, nz_33, nz_34, nz_35, nz_36, nz_37, nz_38, nz_39, nz_40, nz_41, nz_42, nz_43, nz_44, nz_45, nz_46, nz_47, nz_48, nz_49, nz_50, nz_51, nz_63, nz_64, nz_66, nz_127, nz_128, nz_246, nz_247, nz_248, nz_250, nz_251, nz_252, nz_254, nz_255, nz_256, nz_400, nz_2500]
            rw [if_pos (Or.inl trivial)]
            exact ⟨M4, rfl, z4, ⟨X4, [], hX4, hF4⟩, fun X' T' D' h => by cases h⟩
          | [x], _, d3 =>
            dsimp only
            rw [sc_rstack_m1, Option.bind_some, if_pos rfl, eq_re_readRest_55, eq_re_readRest_56]
            simp only [nz_0, nz_1, nz_2, nz_3, nz_4, nz_5, nz_6, nz_7, nz_8, nz_9, nz_10, nz_11, nz_12, nz_13, nz_14, nz_15, nz_16, nz_17, nz_18, nz_19, nz_20, nz_21, nz_22, nz_23, nz_24, nz_25, nz_26, nz_27, nz_28, nz_29, nz_30, nz_31, nz_32, nz_33, nz_34, nz_35, nz_36, nz_37, nz_38, nz_39, nz_40, nz_41, nz_42, nz_43, nz_44, nz_45, nz_46, nz_47, nz_48, nz_49, nz_50, nz_51, nz_63, nz_64, nz_66, nz_127, nz_128, nz_246, nz_247, nz_248, nz_250, nz_251, nz_252, nz_254, nz_255, nz_256, nz_400, nz_2500]
            rw [if_pos (Or.inl trivial)]
            exact ⟨M4, rfl, z4, ⟨X4, [], hX4, hF4⟩, fun X' T' D' h => by cases h⟩
          | h3 :: l3 :: D5, k3, d3 =>
            have hh3 := k3 h3 (by simp)
            have hl3 := k3 l3 (by simp)
            have hb5 : ∀ x ∈ D5, x < 256 := fun x hx => k3 x (by simp [hx])
            have d3 : rd_C M4 B D5 := d3
            dsimp only
            obtain ⟨M5, e1', e2', e3', ⟨T0, D0, e4', e5'⟩, e6'⟩ := sc_rstack (f := f) (m := 256 * h3 + l3) hl (by omega) (z4.W hB) d3 hb5 hF4 hnil hX4
            rw [e1', Option.bind_some]
            simp only [bI_0]
            cases hrt : sp_rt (256 * h3 + l3) [] D5 with
            | none =>
              rw [if_pos (by rfl), eq_re_readRest_55, eq_re_readRest_56]
              simp only [nz_0, nz_1, nz_2, nz_3, nz_4, nz_5, nz_6, nz_7, nz_8, nz_9, nz_10, nz_11, nz_12, nz_13, nz_14, nz_15, nz_16, nz_17, nz_18, nz_19, nz_20, nz_21, nz_22, nz_23, nz_24, nz_25, nz_26, nz_27, nz_28, nz_29, nz_30, nz_31, nz_32, nz_33, nz_34, nz_35, nz_36, nz_37, nz_38, nz_39, nz_40, nz_41, nz_42, nz_43, nz_44, nz_45, nz_46, nz_47, nz_48, nz_49, nz_50, nz_51, nz_63, nz_64, nz_66, nz_127, nz_128, nz_246, nz_247, nz_248, nz_250, nz_251, nz_252, nz_254, nz_255, nz_256, nz_400, nz_2500]
              rw [if_pos (Or.inl trivial)]
              exact ⟨M5, rfl, z4.tr e2', ⟨X4, T0, e3', e4'⟩, fun X' T' D' h => by cases h⟩
            | some q =>
              obtain ⟨T6, D6⟩ := q
              obtain ⟨m1, m2, m3, m4⟩ := e6' T6 D6 hrt
              rw [if_neg (by rw [Option.isSome_some]; decide), eq_re_readRest_56]
              simp only [nz_0, nz_1, nz_2, nz_3, nz_4, nz_5, nz_6, nz_7, nz_8, nz_9, nz_10, nz_11, nz_12, nz_13, nz_14, nz_15, nz_16, nz_17, nz_18, nz_19, nz_20, nz_21, nz_22, nz_23, nz_24, nz_25, nz_26, nz_27, nz_28, nz_29, nz_30, nz_31, nz_32, nz_33, nz_34, nz_35, nz_36, nz_37, nz_38, nz_39, nz_40, nz_41, nz_42, nz_43, nz_44, nz_45, nz_46, nz_47, nz_48, nz_49, nz_50, nz_51, nz_63, nz_64, nz_66, nz_127, nz_128, nz_246, nz_247, nz_248, nz_250, nz_251, nz_252, nz_254, nz_255, nz_256, nz_400, nz_2500]
              rw [if_pos (Or.inr trivial)]
              refine ⟨M5, rfl, z4.tr e2', ⟨X4, T6, e3', m1⟩, ?_⟩
              intro X' T' D' h
              cases h
              exact ⟨e3', m1, m2, m3, m4⟩
    · rw [if_neg (ni_ne e2 (by omega) (by omega))]
      simp only [if_neg e2]
      by_cases e3 : c < 251
      · rw [if_pos (ni_lt e3 (by omega) (by omega)), pk_sub (by omega)]
        simp only [if_pos e3]
        obtain ⟨M1, a1, a2, ⟨X0, a3⟩, a4⟩ := sc_shorten (v := 251 - c) (by omega) hX
        rw [a1, Option.bind_some, eq_re_readRest_85]
        simp only [nz_0, nz_1, nz_2, nz_3, nz_4, nz_5, nz_6, nz_7, nz_8, nz_9, nz_10, nz_11, nz_12, nz_13, nz_14, nz_15, nz_16, nz_17, nz_18, nz_19, nz_20, nz_21, nz_22, nz_23, nz_24, nz_25, nz_26, nz_27, nz_28, nz_29, nz_30, nz_31, nz_32, nz_33, nz_34, nz_35, nz_36, nz_37, nz_38, nz_39, nz_40, nz_41, nz_42, nz_43, nz_44, nz_45, nz_46, nz_47, nz_48, nz_49, nz_50, nz_51, nz_63, nz_64, nz_66, nz_127, nz_128, nz_246, nz_247, nz_248, nz_250, nz_251, nz_252, nz_254, nz_255, nz_256, nz_400, nz_2500]
        rw [if_pos (bI_01 _)]
        by_cases e : 251 - c ≤ X.length
        · rw [decide_eq_true e, if_pos e]
          refine ⟨M1, rfl, a2.x, ⟨_, [], a4 e, a2.F2 hF⟩, ?_⟩
          intro X' T' D' h
          cases h
          exact ⟨a4 e, a2.F2 hF, a2.rd hD, hnil, hb⟩
        · rw [decide_eq_false e, if_neg e]
          exact ⟨M1, rfl, a2.x, ⟨X0, [], a3, a2.F2 hF⟩, fun X' T' D' h => by cases h⟩
      · rw [if_neg (ni_nl (by omega) (by omega) (by omega)), pk_sub (by omega)]
        simp only [if_neg e3]
        obtain ⟨M1, a1, a2, a3, ⟨X0, D0, a4, a5⟩, a6⟩ := sc_rlist (f := f) (m := c - 251) hl (by omega) hB hD hb hF hX
        rw [a1, Option.bind_some, eq_re_readRest_85]
        simp only [nz_0, nz_1, nz_2, nz_3, nz_4, nz_5, nz_6, nz_7, nz_8, nz_9, nz_10, nz_11, nz_12, nz_13, nz_14, nz_15, nz_16, nz_17, nz_18, nz_19, nz_20, nz_21, nz_22, nz_23, nz_24, nz_25, nz_26, nz_27, nz_28, nz_29, nz_30, nz_31, nz_32, nz_33, nz_34, nz_35, nz_36, nz_37, nz_38, nz_39, nz_40, nz_41, nz_42, nz_43, nz_44, nz_45, nz_46, nz_47, nz_48, nz_49, nz_50, nz_51, nz_63, nz_64, nz_66, nz_127, nz_128, nz_246, nz_247, nz_248, nz_250, nz_251, nz_252, nz_254, nz_255, nz_256, nz_400, nz_2500]
        rw [if_pos (bI_01 _), Option.isSome_map]
        refine ⟨M1, rfl, a2, ⟨X0, [], a4, a3⟩, ?_⟩
        intro X' T' D' h
        rw [Option.map_eq_some_iff] at h
        obtain ⟨⟨X1, D1⟩, h1, h2⟩ := h
        cases h2
        obtain ⟨k1, k2, k3⟩ := a6 X1 D1 h1
        exact ⟨k1, a3, k2, hnil, k3⟩
