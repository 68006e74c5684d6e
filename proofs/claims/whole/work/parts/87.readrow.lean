/-! the class reads a row -/
def zo_x (f : Nat) (M M' : zm_M) : Prop := ∀ s i k, ¬ (s = 29 ∧ i = 0 ∧ k = 11) → ¬ (22 < s ∧ s < 26 ∧ i = f) → ¬ ((s = 27 ∨ s = 28) ∧ i = 2) → M' s i k = M s i k
theorem zo_x.rf {f : Nat} {M : zm_M} : zo_x f M M := fun _ _ _ _ _ _ => rfl
theorem zo_x.tr {f : Nat} {M M1 M2 : zm_M} (h : zo_x f M M1) (h2 : zo_x f M1 M2) : zo_x f M M2 := fun s i k a b c => (h2 s i k a b c).trans (h s i k a b c)
theorem zo_1.x {f : Nat} {M M' : zm_M} (h : zo_1 M M') : zo_x f M M' := fun s i k a _ _ => h s i k a
theorem zo_F.x {f : Nat} {M M' : zm_M} (h : zo_F f M M') : zo_x f M M' := fun s i k _ b _ => h s i k (by omega)
theorem zo_L.x {f : Nat} {M M' : zm_M} (h : zo_L 2 M M') : zo_x f M M' := fun s i k _ _ c => h s i k c
theorem zo_x.W {f : Nat} {M M' : zm_M} {B : List Nat} (h : zo_x f M M') (hB : rc_W M 0 B) : rc_W M' 0 B := hB.kept (funext fun k => h 15 0 k (by omega) (by omega) (by omega)) (funext fun k => h 16 0 k (by omega) (by omega) (by omega))
theorem zo_F.rd {f : Nat} {M M' : zm_M} {B D : List Nat} (h : zo_F f M M') (hD : rd_C M B D) : rd_C M' B D := by
  obtain ⟨q, h1, h2, h3⟩ := hD
  exact ⟨q, h1, h2, by rw [h 29 0 11 (by omega)]; exact h3⟩
theorem zo_L.rd {f : Nat} {M M' : zm_M} {B D : List Nat} (h : zo_L f M M') (hD : rd_C M B D) : rd_C M' B D := by
  obtain ⟨q, h1, h2, h3⟩ := hD
  exact ⟨q, h1, h2, by rw [h 29 0 11 (by omega)]; exact h3⟩
theorem zo_F.L2 {f : Nat} {M M' : zm_M} {X : List Nat} (h : zo_F f M M') (hX : rc_L M 2 X) : rc_L M' 2 X := hX.kept (funext fun k => h 27 2 k (by omega)) (funext fun k => h 28 2 k (by omega))
theorem zo_L.F2 {g f : Nat} {M M' : zm_M} {F : sp_F} (h : zo_L g M M') (hF : rc_F M f F) : rc_F M' f F := hF.kept (by rw [h.s (by decide) (by decide)]) (by rw [h.s (by decide) (by decide)]) (by rw [h.s (by decide) (by decide)])
theorem zo_L.W2 {g b : Nat} {M M' : zm_M} {B : List Nat} (h : zo_L g M M') (hB : rc_W M b B) : rc_W M' b B := hB.kept (by rw [h.s (by decide) (by decide)]) (by rw [h.s (by decide) (by decide)])
theorem zo_F.W2 {f b : Nat} {M M' : zm_M} {B : List Nat} (h : zo_F f M M') (hB : rc_W M b B) : rc_W M' b B := hB.kept (by rw [h.low (by decide)]) (by rw [h.low (by decide)])
theorem sc_rst_lp {f : Nat} {B L : List Nat} {b : Bool} (hl : B.length ≤ 400) {m : Nat} (hm : m < 2 ^ 20) : ∀ (k i n : Nat) (M : zm_M) (T D X : List Nat) (o4 : Option zm_V), i + k = m → k < n → rc_W M 0 B → rd_C M B D → (∀ x ∈ D, x < 256) → rc_F M f (L, T, b) → (∀ t ∈ T, sp_wt t) → rc_L M 2 X → ∃ M', rr_re_readStack n 2 [some (.inr (29, 0)), some (.inr (23, f)), some (.inl (nI m)), some (.inl (nI i)), o4] [] M = some (bI (sp_rt k T D).isSome, M') ∧ zo_x f M M' ∧ rc_L M' 2 X ∧ (∃ T' D', rc_F M' f (L, T', b) ∧ rd_C M' B D') ∧ ∀ T' D', sp_rt k T D = some (T', D') → rc_F M' f (L, T', b) ∧ rd_C M' B D' ∧ (∀ t ∈ T', sp_wt t) ∧ ∀ x ∈ D', x < 256 := by
  intro k
  induction k with
  | zero =>
    intro i n M T D X o4 hk hn hB hD hb hF hT hX
    obtain ⟨n, rfl⟩ : ∃ q, n = q + 1 := ⟨n - 1, by omega⟩
    rw [eq_re_readStack_2, if_neg (ni_nl (by omega) (by omega) (by omega))]
    simp only [nz_0, nz_1, nz_2, nz_3, nz_4, nz_5, nz_6, nz_7, nz_8, nz_9, nz_10, nz_11, nz_12, nz_13, nz_14, nz_15, nz_16, nz_17, nz_18, nz_19, nz_20, nz_21, nz_22, nz_23, nz_24, nz_25, nz_26, nz_27, nz_28, nz_29, nz_30, nz_31, nz_32, nz_33, nz_34, nz_35, nz_36, nz_37, nz_38, nz_39, nz_40, nz_41, nz_42, nz_43, nz_44, nz_45, nz_46, nz_47, nz_48, nz_49, nz_50, nz_51, nz_63, nz_64, nz_66, nz_127, nz_128, nz_246, nz_247, nz_248, nz_250, nz_251, nz_252, nz_254, nz_255, nz_256, nz_400, nz_2500]
    rw [if_neg (ni_nl (by omega) (by omega) (by omega))]
    refine ⟨M, rfl, zo_x.rf, hX, ⟨T, D, hF, hD⟩, ?_⟩
    intro T' D' h
    cases h
    exact ⟨hF, hD, hT, hb⟩
  | succ k ih =>
    intro i n M T D X o4 hk hn hB hD hb hF hT hX
    obtain ⟨n, rfl⟩ : ∃ q, n = q + 1 := ⟨n - 1, by omega⟩
    obtain ⟨M1, a1, a2, ⟨D0, a3⟩, a4⟩ := sc_rtype hB hl hD hb
    rw [eq_re_readStack_2, if_pos (ni_lt (by omega) (by omega) (by omega)), a1, Option.bind_some]
    simp only [nz_0, nz_1, nz_2, nz_3, nz_4, nz_5, nz_6, nz_7, nz_8, nz_9, nz_10, nz_11, nz_12, nz_13, nz_14, nz_15, nz_16, nz_17, nz_18, nz_19, nz_20, nz_21, nz_22, nz_23, nz_24, nz_25, nz_26, nz_27, nz_28, nz_29, nz_30, nz_31, nz_32, nz_33, nz_34, nz_35, nz_36, nz_37, nz_38, nz_39, nz_40, nz_41, nz_42, nz_43, nz_44, nz_45, nz_46, nz_47, nz_48, nz_49, nz_50, nz_51, nz_63, nz_64, nz_66, nz_127, nz_128, nz_246, nz_247, nz_248, nz_250, nz_251, nz_252, nz_254, nz_255, nz_256, nz_400, nz_2500, nI_add]
    have hF1 := a2.F hF
    have hX1 := a2.L hX
    unfold sp_rt
    cases hty : sp_ty D with
    | none =>
      rw [if_pos (show vz ((none : Option (Nat × List Nat)).map fun q => q.1) = -nI 1 from rfl)]
      exact ⟨M1, rfl, a2.x, hX1, ⟨T, D0, hF1, a3⟩, fun T' D' h => by cases h⟩
    | some q =>
      obtain ⟨t, D1⟩ := q
      have hD1 := a4 t D1 hty
      obtain ⟨ht, hb1⟩ := sp_ty_wt hb hty
      have htl := sp_wt_lt ht
      have hv : vz ((some (t, D1) : Option (Nat × List Nat)).map fun q => q.1) = nI t := rfl
      rw [hv, if_neg (fun q => vz_ne (show t < 2 ^ 31 by omega) q.symm)]
      obtain ⟨M2, b1, b2, b3⟩ := sc_push hF1 (show t < 2 ^ 31 by omega)
      rw [b1, Option.bind_some]
      simp only [bI_0, Option.bind_some]
      cases hp : sp_psh t T with
      | none =>
        rw [if_pos (by rfl)]
        refine ⟨M2, rfl, a2.x.tr b2.x, b2.L2 hX1, ?_, fun T' D' h => by cases h⟩
        -- nothing was pushed
        have hno : fn_fr_push [.inr (23, f), .inl (nI t)] M1 = some (nI 0, M1) := by
          have hs := hF1.2.1
          have h8 := hF1.2.2
          have hwd := sp_wd_le t
          have hgt : ¬ sp_sl T + sp_wd t ≤ 8 := by
            intro q
            unfold sp_psh at hp
            rw [if_pos q] at hp
            cases hp
          have h8' : sp_sl T ≤ 8 := h8
          have hs' : M1 23 f 3 = nI (sp_sl T) := hs
          rw [eq_fr_push, sc_width (by omega), Option.bind_some]
          simp only [nz_0, nz_1, nz_2, nz_3, nz_4, nz_5, nz_6, nz_7, nz_8, nz_9, nz_10, nz_11, nz_12, nz_13, nz_14, nz_15, nz_16, nz_17, nz_18, nz_19, nz_20, nz_21, nz_22, nz_23, nz_24, nz_25, nz_26, nz_27, nz_28, nz_29, nz_30, nz_31, nz_32, nz_33, nz_34, nz_35, nz_36, nz_37, nz_38, nz_39, nz_40, nz_41, nz_42, nz_43, nz_44, nz_45, nz_46, nz_47, nz_48, nz_49, nz_50, nz_51, nz_63, nz_64, nz_66, nz_127, nz_128, nz_246, nz_247, nz_248, nz_250, nz_251, nz_252, nz_254, nz_255, nz_256, nz_400, nz_2500]
          rw [hs', nI_add, if_pos (ni_lt (by omega) (by omega) (by omega))]
        rw [hno] at b1
        rw [← (Prod.mk.inj (Option.some.inj b1)).2]
        exact ⟨T, D1, hF1, hD1⟩
      | some T1 =>
        rw [if_neg (by rw [Option.isSome_some]; decide)]
        have hF2 := b3 T1 hp
        have hT1 : ∀ u ∈ T1, sp_wt u := by
          unfold sp_psh at hp
          split at hp
          · cases hp
            intro u hu
            rcases List.mem_cons.mp hu with rfl | hu
            · exact ht
            · exact hT u hu
          · cases hp
        obtain ⟨M3, c1, c2, c3, c4, c5⟩ := ih (i + 1) n M2 T1 D1 X (some (.inl (nI t))) (by omega) (by omega) (b2.W2 (a2.W hB)) (b2.rd hD1) hb1 hF2 hT1 (b2.L2 hX1)
        rw [Option.bind_some]
        exact ⟨M3, c1, (a2.x.tr b2.x).tr c2, c3, c4, c5⟩
theorem sc_rstack {f m : Nat} {B L T D X : List Nat} {b : Bool} {M : zm_M} (hl : B.length ≤ 400) (hm : m < 2 ^ 20) (hB : rc_W M 0 B) (hD : rd_C M B D) (hb : ∀ x ∈ D, x < 256) (hF : rc_F M f (L, T, b)) (hT : ∀ t ∈ T, sp_wt t) (hX : rc_L M 2 X) : ∃ M', fn_re_readStack [.inr (29, 0), .inr (23, f), .inl (nI m)] M = some (bI (sp_rt m T D).isSome, M') ∧ zo_x f M M' ∧ rc_L M' 2 X ∧ (∃ T' D', rc_F M' f (L, T', b) ∧ rd_C M' B D') ∧ ∀ T' D', sp_rt m T D = some (T', D') → rc_F M' f (L, T', b) ∧ rd_C M' B D' ∧ (∀ t ∈ T', sp_wt t) ∧ ∀ x ∈ D', x < 256 := by
  rw [eq_re_readStack, show (1073741824 : Nat) = 1073741823 + 1 from rfl, eq_re_readStack_0, nz_0]
  exact sc_rst_lp hl hm m 0 _ M T D X none (by omega) (by omega) hB hD hb hF hT hX
theorem sc_rstack_m1 {f : Nat} {M : zm_M} : fn_re_readStack [.inr (29, 0), .inr (23, f), .inl (-nI 1)] M = some (nI 0, M) := by
  rw [eq_re_readStack, show (1073741824 : Nat) = 1073741823 + 1 from rfl, eq_re_readStack_0, eq_re_readStack_2]
  simp only [nz_0, nz_1, nz_2, nz_3, nz_4, nz_5, nz_6, nz_7, nz_8, nz_9, nz_10, nz_11, nz_12, nz_13, nz_14, nz_15, nz_16, nz_17, nz_18, nz_19, nz_20, nz_21, nz_22, nz_23, nz_24, nz_25, nz_26, nz_27, nz_28, nz_29, nz_30, nz_31, nz_32, nz_33, nz_34, nz_35, nz_36, nz_37, nz_38, nz_39, nz_40, nz_41, nz_42, nz_43, nz_44, nz_45, nz_46, nz_47, nz_48, nz_49, nz_50, nz_51, nz_63, nz_64, nz_66, nz_127, nz_128, nz_246, nz_247, nz_248, nz_250, nz_251, nz_252, nz_254, nz_255, nz_256, nz_400, nz_2500]
  rw [if_neg (by decide), if_pos (by decide)]
theorem sc_rls_lp {f : Nat} {B : List Nat} {F : sp_F} (hl : B.length ≤ 400) {m : Nat} (hm : m < 2 ^ 20) : ∀ (k i n : Nat) (M : zm_M) (X D : List Nat) (o3 : Option zm_V), i + k = m → k < n → rc_W M 0 B → rd_C M B D → (∀ x ∈ D, x < 256) → rc_F M f F → rc_L M 2 X → ∃ M', rr_re_readList n 2 [some (.inr (29, 0)), some (.inl (nI m)), some (.inl (nI i)), o3] [] M = some (bI (sp_rl k X D).isSome, M') ∧ zo_x f M M' ∧ rc_F M' f F ∧ (∃ X' D', rc_L M' 2 X' ∧ rd_C M' B D') ∧ ∀ X' D', sp_rl k X D = some (X', D') → rc_L M' 2 X' ∧ rd_C M' B D' ∧ ∀ x ∈ D', x < 256 := by
  intro k
  induction k with
  | zero =>
    intro i n M X D o3 hk hn hB hD hb hF hX
    obtain ⟨n, rfl⟩ : ∃ q, n = q + 1 := ⟨n - 1, by omega⟩
    rw [eq_re_readList_2, if_neg (ni_nl (by omega) (by omega) (by omega))]
    simp only [nz_0, nz_1, nz_2, nz_3, nz_4, nz_5, nz_6, nz_7, nz_8, nz_9, nz_10, nz_11, nz_12, nz_13, nz_14, nz_15, nz_16, nz_17, nz_18, nz_19, nz_20, nz_21, nz_22, nz_23, nz_24, nz_25, nz_26, nz_27, nz_28, nz_29, nz_30, nz_31, nz_32, nz_33, nz_34, nz_35, nz_36, nz_37, nz_38, nz_39, nz_40, nz_41, nz_42, nz_43, nz_44, nz_45, nz_46, nz_47, nz_48, nz_49, nz_50, nz_51, nz_63, nz_64, nz_66, nz_127, nz_128, nz_246, nz_247, nz_248, nz_250, nz_251, nz_252, nz_254, nz_255, nz_256, nz_400, nz_2500]
    rw [if_neg (ni_nl (by omega) (by omega) (by omega))]
    refine ⟨M, rfl, zo_x.rf, hF, ⟨X, D, hX, hD⟩, ?_⟩
    intro X' D' h
    cases h
    exact ⟨hX, hD, hb⟩
  | succ k ih =>
    intro i n M X D o3 hk hn hB hD hb hF hX
    obtain ⟨n, rfl⟩ : ∃ q, n = q + 1 := ⟨n - 1, by omega⟩
    obtain ⟨M1, a1, a2, ⟨D0, a3⟩, a4⟩ := sc_rtype hB hl hD hb
    rw [eq_re_readList_2, if_pos (ni_lt (by omega) (by omega) (by omega)), a1, Option.bind_some]
    simp only [nz_0, nz_1, nz_2, nz_3, nz_4, nz_5, nz_6, nz_7, nz_8, nz_9, nz_10, nz_11, nz_12, nz_13, nz_14, nz_15, nz_16, nz_17, nz_18, nz_19, nz_20, nz_21, nz_22, nz_23, nz_24, nz_25, nz_26, nz_27, nz_28, nz_29, nz_30, nz_31, nz_32, nz_33, nz_34, nz_35, nz_36, nz_37, nz_38, nz_39, nz_40, nz_41, nz_42, nz_43, nz_44, nz_45, nz_46, nz_47, nz_48, nz_49, nz_50, nz_51, nz_63, nz_64, nz_66, nz_127, nz_128, nz_246, nz_247, nz_248, nz_250, nz_251, nz_252, nz_254, nz_255, nz_256, nz_400, nz_2500, nI_add]
    have hF1 := a2.F hF
    have hX1 := a2.L hX
    unfold sp_rl
    cases hty : sp_ty D with
    | none =>
      rw [if_pos (show vz ((none : Option (Nat × List Nat)).map fun q => q.1) = -nI 1 from rfl)]
      exact ⟨M1, rfl, a2.x, hF1, ⟨X, D0, hX1, a3⟩, fun T' D' h => by cases h⟩
    | some q =>
      obtain ⟨t, D1⟩ := q
      have hD1 := a4 t D1 hty
      obtain ⟨ht, hb1⟩ := sp_ty_wt hb hty
      have htl := sp_wt_lt ht
      have hv : vz ((some (t, D1) : Option (Nat × List Nat)).map fun q => q.1) = nI t := rfl
      rw [hv, if_neg (fun q => vz_ne (show t < 2 ^ 31 by omega) q.symm)]
      obtain ⟨M2, b1, b2, b3⟩ := sc_append hX1 ht
      rw [b1, Option.bind_some]
      simp only [bI_0, Option.bind_some]
      by_cases e : sp_sl X + sp_wd t ≤ 10
      · rw [decide_eq_true e, if_neg (by decide), if_pos e]
        obtain ⟨M3, c1, c2, c3, c4, c5⟩ := ih (i + 1) n M2 (X ++ [t]) D1 (some (.inl (nI t))) (by omega) (by omega) (b2.W2 (a2.W hB)) (b2.rd hD1) hb1 (b2.F2 hF1) (b3 e)
        exact ⟨M3, c1, (a2.x.tr b2.x).tr c2, c3, c4, c5⟩
      · rw [decide_eq_false e, if_pos rfl, if_neg e]
        refine ⟨M2, rfl, a2.x.tr b2.x, b2.F2 hF1, ?_, fun T' D' h => by cases h⟩
        have hno : fn_tl_append [.inr (27, 2), .inl (nI t)] M1 = some (nI 0, M1) := by
          have hwd := sp_wd_le t
          have h10 := hX1.2.2.1
          rw [eq_tl_append, sc_width (by omega), Option.bind_some]
          simp only [nz_0, nz_1, nz_2, nz_3, nz_4, nz_5, nz_6, nz_7, nz_8, nz_9, nz_10, nz_11, nz_12, nz_13, nz_14, nz_15, nz_16, nz_17, nz_18, nz_19, nz_20, nz_21, nz_22, nz_23, nz_24, nz_25, nz_26, nz_27, nz_28, nz_29, nz_30, nz_31, nz_32, nz_33, nz_34, nz_35, nz_36, nz_37, nz_38, nz_39, nz_40, nz_41, nz_42, nz_43, nz_44, nz_45, nz_46, nz_47, nz_48, nz_49, nz_50, nz_51, nz_63, nz_64, nz_66, nz_127, nz_128, nz_246, nz_247, nz_248, nz_250, nz_251, nz_252, nz_254, nz_255, nz_256, nz_400, nz_2500]
          rw [hX1.2.1, nI_add, if_pos (ni_lt (by omega) (by omega) (by omega))]
        rw [hno] at b1
        rw [← (Prod.mk.inj (Option.some.inj b1)).2]
        exact ⟨X, D1, hX1, hD1⟩
theorem sc_rlist {f m : Nat} {B D X : List Nat} {F : sp_F} {M : zm_M} (hl : B.length ≤ 400) (hm : m < 2 ^ 20) (hB : rc_W M 0 B) (hD : rd_C M B D) (hb : ∀ x ∈ D, x < 256) (hF : rc_F M f F) (hX : rc_L M 2 X) : ∃ M', fn_re_readList [.inr (29, 0), .inl (nI m)] M = some (bI (sp_rl m X D).isSome, M') ∧ zo_x f M M' ∧ rc_F M' f F ∧ (∃ X' D', rc_L M' 2 X' ∧ rd_C M' B D') ∧ ∀ X' D', sp_rl m X D = some (X', D') → rc_L M' 2 X' ∧ rd_C M' B D' ∧ ∀ x ∈ D', x < 256 := by
  rw [eq_re_readList, show (1073741824 : Nat) = 1073741823 + 1 from rfl, eq_re_readList_0, nz_0]
  exact sc_rls_lp hl hm m 0 _ M X D none (by omega) (by omega) hB hD hb hF hX
theorem sc_rlist_m1 {M : zm_M} : fn_re_readList [.inr (29, 0), .inl (-nI 1)] M = some (nI 0, M) := by
  rw [eq_re_readList, show (1073741824 : Nat) = 1073741823 + 1 from rfl, eq_re_readList_0, eq_re_readList_2]
  simp only [nz_0, nz_1, nz_2, nz_3, nz_4, nz_5, nz_6, nz_7, nz_8, nz_9, nz_10, nz_11, nz_12, nz_13, nz_14, nz_15, nz_16, nz_17, nz_18, nz_19, nz_20, nz_21, nz_22, nz_23, nz_24, nz_25, nz_26, nz_27, nz_28, nz_29, nz_30, nz_31, nz_32, nz_33, nz_34, nz_35, nz_36, nz_37, nz_38, nz_39, nz_40, nz_41, nz_42, nz_43, nz_44, nz_45, nz_46, nz_47, nz_48, nz_49, nz_50, nz_51, nz_63, nz_64, nz_66, nz_127, nz_128, nz_246, nz_247, nz_248, nz_250, nz_251, nz_252, nz_254, nz_255, nz_256, nz_400, nz_2500]
  rw [if_neg (by decide), if_pos (by decide)]
theorem sc_sh_dr {v1 : Nat} (hv : v1 ≤ 3) : ∀ (k i n : Nat) (M : zm_M) (X : List Nat), i + k = v1 → k < n → k ≤ X.length → rc_L M 2 X → ∃ M', rr_re_shorten n 15 [some (.inr (29, 0)), some (.inl (nI v1)), some (.inl (nI i))] [] M = some (nI 1, M') ∧ zo_L 2 M M' ∧ rc_L M' 2 (X.take (X.length - k)) := by
  intro k
  induction k with
  | zero =>
    intro i n M X hk hn hl hX
    obtain ⟨n, rfl⟩ : ∃ q, n = q + 1 := ⟨n - 1, by omega⟩
    rw [eq_re_shorten_15, if_neg (ni_nl (by omega) (by omega) (by omega)), nz_1]
    refine ⟨M, rfl, zo_L.rf, ?_⟩
    rw [List.take_of_length_le (by omega)]
    exact hX
  | succ k ih =>
    intro i n M X hk hn hl hX
    obtain ⟨n, rfl⟩ : ∃ q, n = q + 1 := ⟨n - 1, by omega⟩
    rw [eq_re_shorten_15, if_pos (ni_lt (by omega) (by omega) (by omega))]
    simp only [nz_0, nz_1, nz_2, nz_3, nz_4, nz_5, nz_6, nz_7, nz_8, nz_9, nz_10, nz_11, nz_12, nz_13, nz_14, nz_15, nz_16, nz_17, nz_18, nz_19, nz_20, nz_21, nz_22, nz_23, nz_24, nz_25, nz_26, nz_27, nz_28, nz_29, nz_30, nz_31, nz_32, nz_33, nz_34, nz_35, nz_36, nz_37, nz_38, nz_39, nz_40, nz_41, nz_42, nz_43, nz_44, nz_45, nz_46, nz_47, nz_48, nz_49, nz_50, nz_51, nz_63, nz_64, nz_66, nz_127, nz_128, nz_246, nz_247, nz_248, nz_250, nz_251, nz_252, nz_254, nz_255, nz_256, nz_400, nz_2500, nI_add]
    obtain ⟨M1, a1, a2, a3⟩ := sc_tl_drop hX
    rw [a1, Option.bind_some]
    obtain ⟨M2, b1, b2, b3⟩ := ih (i + 1) n M1 X.dropLast (by omega) (by omega) (by rw [List.length_dropLast]; omega) a3
    refine ⟨M2, b1, a2.tr b2, ?_⟩
    rw [List.length_dropLast, List.dropLast_eq_take, List.take_take, show min (X.length - 1 - k) (X.length - 1) = X.length - (k + 1) by omega] at b3
    exact b3
theorem sc_shorten {M : zm_M} {X : List Nat} {v : Nat} (hv : v ≤ 3) (hX : rc_L M 2 X) : ∃ M', fn_re_shorten [.inr (29, 0), .inl (nI v)] M = some (bI (decide (v ≤ X.length)), M') ∧ zo_L 2 M M' ∧ (∃ X', rc_L M' 2 X') ∧ (v ≤ X.length → rc_L M' 2 (X.take (X.length - v))) := by
  have hl := hX.len
  rw [eq_re_shorten, show (1073741824 : Nat) = 1073741823 + 1 from rfl, eq_re_shorten_0, hX.1]
  simp only [nz_0, nz_1, nz_2, nz_3, nz_4, nz_5, nz_6, nz_7, nz_8, nz_9, nz_10, nz_11, nz_12, nz_13, nz_14, nz_15, nz_16, nz_17, nz_18, nz_19, nz_20, nz_21, nz_22, nz_23, nz_24, nz_25, nz_26, nz_27, nz_28, nz_29, nz_30, nz_31, nz_32, nz_33, nz_34, nz_35, nz_36, nz_37, nz_38, nz_39, nz_40, nz_41, nz_42, nz_43, nz_44, nz_45, nz_46, nz_47, nz_48, nz_49, nz_50, nz_51, nz_63, nz_64, nz_66, nz_127, nz_128, nz_246, nz_247, nz_248, nz_250, nz_251, nz_252, nz_254, nz_255, nz_256, nz_400, nz_2500]
  by_cases e : v ≤ X.length
  · rw [if_neg (ni_nl e (by omega) (by omega)), decide_eq_true e]
    obtain ⟨M1, a1, a2, a3⟩ := sc_sh_dr hv v 0 (1073741823 + 1) M X (by omega) (by omega) e hX
    exact ⟨M1, a1, a2, ⟨_, a3⟩, fun _ => a3⟩
  · rw [if_pos (ni_lt (by omega) (by omega) (by omega)), decide_eq_false e]
    exact ⟨M, rfl, zo_L.rf, ⟨X, hX⟩, fun q => absurd q e⟩
