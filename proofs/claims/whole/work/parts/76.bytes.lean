/-! WRITING: lists of TYPES as rows have them, bytes -/
def sp_en : List Nat → List Nat
  | [] => []
  | [t] => [t]
  | t :: u :: L => if sp_wd t = 2 then t :: sp_en L else t :: sp_en (u :: L)
def sp_tr (X : List Nat) : List Nat := (X.reverse.dropWhile fun t => t == 0).reverse
def sp_lst (L : List Nat) : List Nat := sp_tr (sp_en L)
def sp_two (v : Nat) : List Nat := [v / 256 % 256, v % 256]
def sp_tb (t : Nat) : List Nat := if sp_kd t = 7 ∨ sp_kd t = 8 then sp_kd t :: sp_two (sp_pt t) else [sp_kd t]
def sp_tbs (X : List Nat) : List Nat := X.flatMap sp_tb
def sp_cp : List Nat → List Nat → Nat
  | x :: X, y :: Y => if x = y then sp_cp X Y + 1 else 0
  | _, _ => 0
def sp_rb (Y X T : List Nat) (d : Nat) : List Nat :=
  if sp_cp X Y = min X.length Y.length ∧ X.length = Y.length ∧ T.length = 0 then (if d < 64 then [d] else 251 :: sp_two d)
  else if sp_cp X Y = min X.length Y.length ∧ X.length = Y.length ∧ T.length = 1 then (if d < 64 then [64 + d] else 247 :: sp_two d) ++ sp_tbs T
  else if sp_cp X Y = min X.length Y.length ∧ X.length ≤ Y.length + 3 ∧ Y.length ≤ X.length + 3 ∧ T.length = 0 then (251 + X.length - Y.length) :: (sp_two d ++ sp_tbs (X.drop Y.length))
  else 255 :: (sp_two d ++ (sp_two X.length ++ (sp_tbs X ++ (sp_two T.length ++ sp_tbs T.reverse))))
/-! the class's bytes -/
def rc_W (M : zm_M) (b : Nat) (B : List Nat) : Prop := M 15 b 1 = nI B.length ∧ ∀ i, i < B.length → i < 400 → M 16 b i = nI (B.getD i 0)
def zo_W (b : Nat) (M M' : zm_M) : Prop := ∀ s i k, ¬ ((s = 15 ∨ s = 16) ∧ i = b) → M' s i k = M s i k
theorem zo_W.rf {b : Nat} {M : zm_M} : zo_W b M M := fun _ _ _ _ => rfl
theorem zo_W.tr {b : Nat} {M M1 M2 : zm_M} (h : zo_W b M M1) (h2 : zo_W b M1 M2) : zo_W b M M2 := fun s i k a => (h2 s i k a).trans (h s i k a)
theorem zo_W.up {b s k : Nat} {x : Int32} {M : zm_M} (hs : s = 15 ∨ s = 16) : zo_W b M (zm_up M s b k x) := by
  intro s' i' k' h
  by_cases h1 : s' = s
  · subst h1
    rw [zu_i (by omega)]
  · rw [zu_s h1]
theorem zo_W.s {b : Nat} {M M' : zm_M} (h : zo_W b M M') {s : Nat} (h5 : s ≠ 15) (h6 : s ≠ 16) : M' s = M s := by
  funext i k
  exact h s i k (by omega)
theorem gd_snoc {B : List Nat} {x i : Nat} : (B ++ [x]).getD i 0 = if i = B.length then x else B.getD i 0 := by
  rw [gd_app]
  split
  · next e => rw [if_neg (by omega)]
  · next e =>
    by_cases e2 : i = B.length
    · rw [if_pos e2, show i - B.length = 0 by omega]
      rfl
    · rw [if_neg e2, gd_out (show ([x] : List Nat).length ≤ i - B.length by simp; omega), gd_out (by omega)]
theorem sc_put {M : zm_M} {b x : Nat} {B : List Nat} (h : rc_W M b B) (hl : B.length < 2 ^ 30) : ∃ M', fn_by_put [.inr (15, b), .inl (nI x)] M = some M' ∧ zo_W b M M' ∧ rc_W M' b (B ++ [x]) := by
  rw [eq_by_put, h.1]
  simp only [nz_0, nz_1, nz_2, nz_3, nz_4, nz_5, nz_6, nz_7, nz_8, nz_9, nz_10, nz_11, nz_12, nz_13, nz_14, nz_15, nz_16, nz_17, nz_18, nz_19, nz_20, nz_21, nz_22, nz_23, nz_24, nz_25, nz_26, nz_27, nz_28, nz_29, nz_30, nz_31, nz_32, nz_33, nz_34, nz_35, nz_36, nz_37, nz_38, nz_39, nz_40, nz_41, nz_42, nz_43, nz_44, nz_45, nz_46, nz_47, nz_48, nz_49, nz_50, nz_51, nz_63, nz_64, nz_66, nz_127, nz_128, nz_246, nz_247, nz_248, nz_250, nz_251, nz_252, nz_254, nz_255, nz_256, nz_400, nz_2500, nI_add]
  by_cases e : B.length < 400
  · rw [if_pos (ni_lt e (by omega) (by omega)), nI_clamp (by omega), if_neg (ni_in e (by omega))]
    refine ⟨_, rfl, (zo_W.up (by omega)).tr (zo_W.up (by omega)), ?_, ?_⟩
    · rw [zu_e, List.length_append]
      rfl
    · intro i hi h400
      rw [zu_s (by decide), gd_snoc]
      by_cases e2 : i = B.length
      · rw [if_pos e2, e2, zu_e]
      · rw [if_neg e2, zu_k e2]
        rw [List.length_append] at hi
        exact h.2 i (by simp at hi; omega) h400
  · rw [if_neg (ni_nl (by omega) (by omega) (by omega))]
    refine ⟨_, rfl, zo_W.up (by omega), ?_, ?_⟩
    · rw [zu_e, List.length_append]
      rfl
    · intro i hi h400
      rw [zu_s (by decide), gd_snoc, if_neg (by omega)]
      exact h.2 i (by omega) h400
theorem by_hi {v : Nat} (h : v < 2 ^ 31) : (nI v >>> (nI 8 &&& nI 31)) &&& nI 255 = nI (v / 256 % 256) := by
  rw [pk_shrN h _ 8 (by decide), pk_andN (by omega) 8 (by decide)]
theorem by_lo {v : Nat} (h : v < 2 ^ 31) : nI v &&& nI 255 = nI (v % 256) := pk_andN (by omega) 8 (by decide)
theorem sc_putTwo {M : zm_M} {b v : Nat} {B : List Nat} (h : rc_W M b B) (hl : B.length < 2 ^ 29) (hv : v < 2 ^ 31) : ∃ M', fn_by_putTwo [.inr (15, b), .inl (nI v)] M = some M' ∧ zo_W b M M' ∧ rc_W M' b (B ++ sp_two v) := by
  rw [eq_by_putTwo]
  simp only [nz_0, nz_1, nz_2, nz_3, nz_4, nz_5, nz_6, nz_7, nz_8, nz_9, nz_10, nz_11, nz_12, nz_13, nz_14, nz_15, nz_16, nz_17, nz_18, nz_19, nz_20, nz_21, nz_22, nz_23, nz_24, nz_25, nz_26, nz_27, nz_28, nz_29, nz_30, nz_31, nz_32, nz_33, nz_34, nz_35, nz_36, nz_37, nz_38, nz_39, nz_40, nz_41, nz_42, nz_43, nz_44, nz_45, nz_46, nz_47, nz_48, nz_49, nz_50, nz_51, nz_63, nz_64, nz_66, nz_127, nz_128, nz_246, nz_247, nz_248, nz_250, nz_251, nz_252, nz_254, nz_255, nz_256, nz_400, nz_2500]
  rw [by_hi hv, by_lo hv]
  obtain ⟨M1, a1, a2, a3⟩ := sc_put (x := v / 256 % 256) h (by omega)
  obtain ⟨M2, b1, b2, b3⟩ := sc_put (x := v % 256) a3 (by simp; omega)
  rw [a1, Option.bind_some, b1, Option.bind_some]
  refine ⟨M2, rfl, a2.tr b2, ?_⟩
  rw [List.append_assoc] at b3
  exact b3
theorem sc_putType {M : zm_M} {b t : Nat} {B : List Nat} (h : rc_W M b B) (hl : B.length < 2 ^ 28) (ht : t < 2 ^ 31) : ∃ M', fn_by_putType [.inr (15, b), .inl (nI t)] M = some M' ∧ zo_W b M M' ∧ rc_W M' b (B ++ sp_tb t) := by
  have hk := sp_kd_lt t
  have hp := sp_pt_le t
  rw [eq_by_putType, sc_kind ht]
  simp only [nz_0, nz_1, nz_2, nz_3, nz_4, nz_5, nz_6, nz_7, nz_8, nz_9, nz_10, nz_11, nz_12, nz_13, nz_14, nz_15, nz_16, nz_17, nz_18, nz_19, nz_20, nz_21, nz_22, nz_23, nz_24, nz_25, nz_26, nz_27, nz_28, nz_29, nz_30, nz_31, nz_32, nz_33, nz_34, nz_35, nz_36, nz_37, nz_38, nz_39, nz_40, nz_41, nz_42, nz_43, nz_44, nz_45, nz_46, nz_47, nz_48, nz_49, nz_50, nz_51, nz_63, nz_64, nz_66, nz_127, nz_128, nz_246, nz_247, nz_248, nz_250, nz_251, nz_252, nz_254, nz_255, nz_256, nz_400, nz_2500, Option.bind_some]
  obtain ⟨M1, a1, a2, a3⟩ := sc_put (x := sp_kd t) h (by omega)
  rw [a1]
  simp only [Option.bind_some]
  rw [sc_part ht]
  simp only [Option.bind_some]
  have two : (sp_kd t = 7 ∨ sp_kd t = 8) → ∃ M', ((fn_by_putTwo [.inr (15, b), .inl (nI (sp_pt t))] M1).bind fun q4 => some q4) = some M' ∧ zo_W b M M' ∧ rc_W M' b (B ++ sp_tb t) := by
    intro e
    obtain ⟨M2, b1, b2, b3⟩ := sc_putTwo (v := sp_pt t) a3 (by simp; omega) (by omega)
    rw [b1, Option.bind_some]
    refine ⟨M2, rfl, a2.tr b2, ?_⟩
    rw [List.append_assoc] at b3
    unfold sp_tb
    rw [if_pos e]
    exact b3
  by_cases e7 : sp_kd t = 7
  · rw [if_pos (by rw [e7])]
    exact two (Or.inl e7)
  · rw [if_neg (ni_ne e7 (by omega) (by omega))]
    by_cases e8 : sp_kd t = 8
    · rw [if_pos (by rw [e8])]
      exact two (Or.inr e8)
    · rw [if_neg (ni_ne e8 (by omega) (by omega))]
      refine ⟨M1, rfl, a2, ?_⟩
      unfold sp_tb
      rw [if_neg (by omega)]
      exact a3
theorem sp_tb_le (t : Nat) : 1 ≤ (sp_tb t).length ∧ (sp_tb t).length ≤ 3 := by
  unfold sp_tb
  split <;> simp [sp_two]
theorem sp_tbs_le : ∀ X : List Nat, (sp_tbs X).length ≤ 3 * X.length
  | [] => by simp [sp_tbs]
  | t :: X => by
    have h1 := sp_tb_le t
    have h2 := sp_tbs_le X
    unfold sp_tbs at h2 ⊢
    rw [List.flatMap_cons, List.length_append, List.length_cons]
    omega
theorem sp_tbs_c (t : Nat) (X : List Nat) : sp_tbs (t :: X) = sp_tb t ++ sp_tbs X := by
  unfold sp_tbs
  rw [List.flatMap_cons]
/-! the class's lists of TYPES -/
def rc_L (M : zm_M) (f : Nat) (X : List Nat) : Prop := M 27 f 1 = nI X.length ∧ M 27 f 2 = nI (sp_sl X) ∧ sp_sl X ≤ 10 ∧ (∀ i, i < X.length → M 28 f i = nI (X.getD i 0)) ∧ ∀ t ∈ X, sp_wt t
theorem rc_L.len {M : zm_M} {f : Nat} {X : List Nat} (h : rc_L M f X) : X.length ≤ 10 := Nat.le_trans (sp_sl_len X) h.2.2.1
def zo_L (f : Nat) (M M' : zm_M) : Prop := ∀ s i k, ¬ ((s = 27 ∨ s = 28) ∧ i = f) → M' s i k = M s i k
theorem zo_L.rf {f : Nat} {M : zm_M} : zo_L f M M := fun _ _ _ _ => rfl
theorem zo_L.tr {f : Nat} {M M1 M2 : zm_M} (h : zo_L f M M1) (h2 : zo_L f M1 M2) : zo_L f M M2 := fun s i k a => (h2 s i k a).trans (h s i k a)
theorem zo_L.up {f s k : Nat} {x : Int32} {M : zm_M} (hs : s = 27 ∨ s = 28) : zo_L f M (zm_up M s f k x) := by
  intro s' i' k' h
  by_cases h1 : s' = s
  · subst h1
    rw [zu_i (by omega)]
  · rw [zu_s h1]
theorem zo_L.s {f : Nat} {M M' : zm_M} (h : zo_L f M M') {s : Nat} (h5 : s ≠ 27) (h6 : s ≠ 28) : M' s = M s := by
  funext i k
  exact h s i k (by omega)
theorem rc_L.kept {M M' : zm_M} {f : Nat} {X : List Nat} (h : rc_L M f X) (h7 : M' 27 f = M 27 f) (h8 : M' 28 f = M 28 f) : rc_L M' f X := by
  unfold rc_L at h ⊢
  rw [h7, h8]
  exact h
theorem sc_tl_empty {M : zm_M} {f : Nat} : ∃ M', fn_tl_empty [.inr (27, f)] M = some M' ∧ zo_L f M M' ∧ rc_L M' f [] := by
  rw [eq_tl_empty]
  simp only [nz_0, nz_1, nz_2, nz_3, nz_4, nz_5, nz_6, nz_7, nz_8, nz_9, nz_10, nz_11, nz_12, nz_13, nz_14, nz_15, nz_16, nz_17, nz_18, nz_19, nz_20, nz_21, nz_22, nz_23, nz_24, nz_25, nz_26, nz_27, nz_28, nz_29, nz_30, nz_31, nz_32, nz_33, nz_34, nz_35, nz_36, nz_37, nz_38, nz_39, nz_40, nz_41, nz_42, nz_43, nz_44, nz_45, nz_46, nz_47, nz_48, nz_49, nz_50, nz_51, nz_63, nz_64, nz_66, nz_127, nz_128, nz_246, nz_247, nz_248, nz_250, nz_251, nz_252, nz_254, nz_255, nz_256, nz_400, nz_2500]
  refine ⟨_, rfl, (zo_L.up (by omega)).tr (zo_L.up (by omega)), ?_, ?_, by decide, fun i hi => by simp at hi, fun t ht => by simp at ht⟩
  · rw [zu_k (by decide), zu_e]
    rfl
  · rw [zu_e]
    rfl
theorem sc_append {M : zm_M} {f t : Nat} {X : List Nat} (h : rc_L M f X) (ht : sp_wt t) : ∃ M', fn_tl_append [.inr (27, f), .inl (nI t)] M = some (bI (decide (sp_sl X + sp_wd t ≤ 10)), M') ∧ zo_L f M M' ∧ (sp_sl X + sp_wd t ≤ 10 → rc_L M' f (X ++ [t])) := by
  have htl := sp_wt_lt ht
  have hwd := sp_wd_le t
  have hl := h.len
  have hsl := sp_sl_len X
  have h10 := h.2.2.1
  rw [eq_tl_append, sc_width (by omega)]
  simp only [nz_0, nz_1, nz_2, nz_3, nz_4, nz_5, nz_6, nz_7, nz_8, nz_9, nz_10, nz_11, nz_12, nz_13, nz_14, nz_15, nz_16, nz_17, nz_18, nz_19, nz_20, nz_21, nz_22, nz_23, nz_24, nz_25, nz_26, nz_27, nz_28, nz_29, nz_30, nz_31, nz_32, nz_33, nz_34, nz_35, nz_36, nz_37, nz_38, nz_39, nz_40, nz_41, nz_42, nz_43, nz_44, nz_45, nz_46, nz_47, nz_48, nz_49, nz_50, nz_51, nz_63, nz_64, nz_66, nz_127, nz_128, nz_246, nz_247, nz_248, nz_250, nz_251, nz_252, nz_254, nz_255, nz_256, nz_400, nz_2500, Option.bind_some]
  rw [h.2.1, h.1, nI_add, nI_add]
  by_cases e : sp_sl X + sp_wd t ≤ 10
  · rw [if_neg (ni_nl e (by omega) (by omega)), nI_clamp (by omega), if_neg (ni_in (show X.length < 10 by omega) (by omega)), decide_eq_true e]
    have hs : sp_sl (X ++ [t]) = sp_sl X + sp_wd t := by rw [sl_app]; rfl
    refine ⟨_, rfl, ((zo_L.up (by omega)).tr (zo_L.up (by omega))).tr (zo_L.up (by omega)), fun _ => ⟨?_, ?_, ?_, ?_, ?_⟩⟩
    · rw [zu_k (by decide), zu_e, List.length_append]
      rfl
    · rw [zu_e, hs]
    · omega
    · intro i hi
      rw [zu_s (by decide), zu_s (by decide), gd_snoc]
      by_cases e2 : i = X.length
      · rw [if_pos e2, e2, zu_e]
      · rw [if_neg e2, zu_k e2]
        rw [List.length_append] at hi
        exact h.2.2.2.1 i (by simp at hi; omega)
    · intro u hu
      rcases List.mem_append.mp hu with hu | hu
      · exact h.2.2.2.2 u hu
      · rw [List.mem_singleton] at hu
        rw [hu]
        exact ht
  · rw [if_pos (ni_lt (by omega) (by omega) (by omega)), decide_eq_false e]
    exact ⟨M, rfl, zo_L.rf, fun q => absurd q e⟩
theorem sc_tl_drop {M : zm_M} {f : Nat} {X : List Nat} (h : rc_L M f X) : ∃ M', fn_tl_drop [.inr (27, f)] M = some M' ∧ zo_L f M M' ∧ rc_L M' f X.dropLast := by
  have hl := h.len
  have hsl := sp_sl_len X
  have h10 := h.2.2.1
  rw [eq_tl_drop, h.1]
  simp only [nz_0, nz_1, nz_2, nz_3, nz_4, nz_5, nz_6, nz_7, nz_8, nz_9, nz_10, nz_11, nz_12, nz_13, nz_14, nz_15, nz_16, nz_17, nz_18, nz_19, nz_20, nz_21, nz_22, nz_23, nz_24, nz_25, nz_26, nz_27, nz_28, nz_29, nz_30, nz_31, nz_32, nz_33, nz_34, nz_35, nz_36, nz_37, nz_38, nz_39, nz_40, nz_41, nz_42, nz_43, nz_44, nz_45, nz_46, nz_47, nz_48, nz_49, nz_50, nz_51, nz_63, nz_64, nz_66, nz_127, nz_128, nz_246, nz_247, nz_248, nz_250, nz_251, nz_252, nz_254, nz_255, nz_256, nz_400, nz_2500]
  rcases List.eq_nil_or_concat X with rfl | ⟨Y, t, hX⟩
  · rw [if_neg (by decide)]
    exact ⟨M, rfl, zo_L.rf, h⟩
  · rw [List.concat_eq_append] at hX
    subst hX
    have hlen : (Y ++ [t]).length = Y.length + 1 := by simp
    have hs : sp_sl (Y ++ [t]) = sp_sl Y + sp_wd t := by rw [sl_app]; rfl
    have ht := h.2.2.2.2 t (by simp)
    have htl := sp_wt_lt ht
    have hg : M 28 f Y.length = nI t := by
      rw [h.2.2.2.1 Y.length (by omega), gd_snoc, if_pos rfl]
    rw [if_pos (ni_lt (by omega) (by omega) (by omega)), zu_e, hlen, pk_sub (by omega), show Y.length + 1 - 1 = Y.length by omega, nI_clamp (by omega), if_neg (ni_in (show Y.length < 10 by omega) (by omega)), hg, sc_width (by omega)]
    simp only [Option.bind_some]
    rw [h.2.1, hs, pk_sub (by omega)]
    refine ⟨_, rfl, (zo_L.up (by omega)).tr (zo_L.up (by omega)), ?_⟩
    rw [List.dropLast_concat]
    refine ⟨?_, ?_, by omega, ?_, fun u hu => h.2.2.2.2 u (List.mem_append_left _ hu)⟩
    · rw [zu_k (by decide), zu_e]
    · rw [zu_e, show sp_sl Y + sp_wd t - sp_wd t = sp_sl Y by omega]
    · intro i hi
      rw [zu_s (by decide), zu_s (by decide), h.2.2.2.1 i (by omega), gd_snoc, if_neg (by omega)]
