/-! FRAMES in the store -/
def rp (lo st : Nat → Int32) (d r : Int32) (F : sp_F) : Prop := F.1.length = 10 ∧ (∀ i, i < 10 → lo i = nI (F.1.getD i 0)) ∧ d = nI F.2.1.length ∧ (∀ i, i < F.2.1.length → st i = nI (F.2.1.getD (F.2.1.length - 1 - i) 0)) ∧ r = bI F.2.2
def rc_F (M : zm_M) (f : Nat) (F : sp_F) : Prop := rp (M 24 f) (M 25 f) (M 23 f 2) (M 23 f 4) F ∧ M 23 f 3 = nI (sp_sl F.2.1) ∧ sp_sl F.2.1 ≤ 8
def wf_F (F : sp_F) : Prop := (∀ t ∈ F.1, sp_wt t) ∧ ∀ t ∈ F.2.1, sp_wt t
/-- nothing but frame f has changed -/
def zo_F (f : Nat) (M M' : zm_M) : Prop := ∀ s i k, (s < 23 ∨ 25 < s ∨ i ≠ f) → M' s i k = M s i k
theorem zo_F.rf {f : Nat} {M : zm_M} : zo_F f M M := fun _ _ _ _ => rfl
theorem zo_F.tr {f : Nat} {M M1 M2 : zm_M} (h : zo_F f M M1) (h2 : zo_F f M1 M2) : zo_F f M M2 := fun s i k hs => (h2 s i k hs).trans (h s i k hs)
theorem zo_F.up {f s k : Nat} {x : Int32} {M : zm_M} (hs : 22 < s ∧ s < 26) : zo_F f M (zm_up M s f k x) := by
  intro s' i' k' h
  unfold zm_up
  by_cases h1 : s' = s
  · by_cases h2 : i' = f
    · omega
    · simp [h2]
  · simp [h1]
theorem sp_wd_le (t : Nat) : 1 ≤ sp_wd t ∧ sp_wd t ≤ 2 := by unfold sp_wd; split <;> omega
theorem sp_sl_c (t : Nat) (T : List Nat) : sp_sl (t :: T) = sp_wd t + sp_sl T := rfl
theorem sp_sl_len : ∀ T : List Nat, T.length ≤ sp_sl T
  | [] => Nat.le_refl _
  | t :: T => by
    have := sp_sl_len T
    have := (sp_wd_le t).1
    rw [sp_sl_c, List.length_cons]
    omega
theorem rp_psh {lo st st' : Nat → Int32} {d d' r : Int32} {F : sp_F} {t : Nat} (h : rp lo st d r F) (hd : d' = nI (F.2.1.length + 1)) (h1 : st' F.2.1.length = nI t) (h2 : ∀ i, i < F.2.1.length → st' i = st i) : rp lo st' d' r (F.1, t :: F.2.1, F.2.2) := by
  obtain ⟨a, b, c, e, g⟩ := h
  refine ⟨a, b, hd, fun i hi => ?_, g⟩
  simp only [List.length_cons] at hi ⊢
  by_cases h3 : i = F.2.1.length
  · subst h3
    rw [h1, show F.2.1.length + 1 - 1 - F.2.1.length = 0 by omega]
    rfl
  · rw [h2 i (by omega), e i (by omega), show F.2.1.length + 1 - 1 - i = (F.2.1.length - 1 - i) + 1 by omega, List.getD_cons_succ]
theorem rp_pop {lo st : Nat → Int32} {d d' r : Int32} {L T : List Nat} {b : Bool} {t : Nat} (h : rp lo st d r (L, t :: T, b)) (hd : d' = nI T.length) : rp lo st d' r (L, T, b) := by
  obtain ⟨a, b1, c, e, g⟩ := h
  refine ⟨a, b1, hd, fun i hi => ?_, g⟩
  have := e i (by simp only [List.length_cons]; dsimp only at hi; omega)
  rw [this]
  simp only [List.length_cons]
  dsimp only at hi
  rw [show T.length + 1 - 1 - i = (T.length - 1 - i) + 1 by omega, List.getD_cons_succ]
theorem rp_top {lo st : Nat → Int32} {d r : Int32} {L T : List Nat} {b : Bool} {t : Nat} (h : rp lo st d r (L, t :: T, b)) : st T.length = nI t := by
  have := h.2.2.2.1 T.length (by simp)
  rw [this]
  simp
theorem sc_push {M : zm_M} {f t : Nat} {F : sp_F} (h : rc_F M f F) (ht : t < 2 ^ 31) : ∃ M', fn_fr_push [.inr (23, f), .inl (nI t)] M = some (bI (sp_psh t F.2.1).isSome, M') ∧ zo_F f M M' ∧ ∀ T', sp_psh t F.2.1 = some T' → rc_F M' f (F.1, T', F.2.2) := by
  have hw := sp_wd_le t
  have hl := sp_sl_len F.2.1
  obtain ⟨hr, hsl, h8⟩ := h
  rw [eq_fr_push, sc_width ht]
  simp only [Option.bind_some, hsl, hr.2.2.1]
  simp (disch := omega) only [nz_0, nz_1, nz_2, nz_3, nz_4, nz_5, nz_6, nz_7, nz_8, nz_9, nz_10, nz_11, nz_12, nz_13, nz_14, nz_15, nz_16, nz_17, nz_18, nz_19, nz_20, nz_21, nz_22, nz_23, nz_24, nz_25, nz_26, nz_27, nz_28, nz_29, nz_30, nz_31, nz_32, nz_33, nz_34, nz_35, nz_36, nz_37, nz_38, nz_39, nz_40, nz_41, nz_42, nz_43, nz_44, nz_45, nz_46, nz_47, nz_48, nz_49, nz_50, nz_51, nz_63, nz_64, nz_66, nz_127, nz_128, nz_246, nz_247, nz_248, nz_250, nz_251, nz_252, nz_254, nz_255, nz_256, nz_400, nz_2500, nI_eq, nI_ltI, nI_leI, nI_add, nI_clamp, pk_mul]
  unfold sp_psh
  by_cases hs : sp_sl F.2.1 + sp_wd t ≤ 8
  · refine ⟨_, by rw [if_neg (by omega), if_neg (by omega), if_pos hs]; rfl, ?_, ?_⟩
    · exact ((zo_F.up (by omega)).tr (zo_F.up (by omega))).tr (zo_F.up (by omega))
    · intro T' hT
      rw [if_pos hs] at hT
      cases hT
      refine ⟨?_, ?_, ?_⟩
      · simp (disch := omega) only [zu_s, zu_e, zu_k]
        exact rp_psh hr rfl zu_e (fun i hi => zu_k (by omega))
      · simp (disch := omega) only [zu_s, zu_e, zu_k]
        rw [sp_sl_c, Nat.add_comm]
      · rw [sp_sl_c]
        omega
  · exact ⟨M, by rw [if_pos (by omega), if_neg hs]; rfl, zo_F.rf, fun T' hT => by rw [if_neg hs] at hT; cases hT⟩
def vz : Option Nat → Int32
  | some t => nI t
  | none => -nI 1
theorem sc_peek {M : zm_M} {f a : Nat} {F : sp_F} (h : rc_F M f F) (ha : a < 2 ^ 30) : fn_fr_peek [.inr (23, f), .inl (nI a)] M = some (vz F.2.1[a]?, M) := by
  have hl := sp_sl_len F.2.1
  obtain ⟨hr, hsl, h8⟩ := h
  rw [eq_fr_peek, hr.2.2.1]
  simp (disch := omega) only [nz_0, nz_1, nz_2, nz_3, nz_4, nz_5, nz_6, nz_7, nz_8, nz_9, nz_10, nz_11, nz_12, nz_13, nz_14, nz_15, nz_16, nz_17, nz_18, nz_19, nz_20, nz_21, nz_22, nz_23, nz_24, nz_25, nz_26, nz_27, nz_28, nz_29, nz_30, nz_31, nz_32, nz_33, nz_34, nz_35, nz_36, nz_37, nz_38, nz_39, nz_40, nz_41, nz_42, nz_43, nz_44, nz_45, nz_46, nz_47, nz_48, nz_49, nz_50, nz_51, nz_63, nz_64, nz_66, nz_127, nz_128, nz_246, nz_247, nz_248, nz_250, nz_251, nz_252, nz_254, nz_255, nz_256, nz_400, nz_2500, nI_eq, nI_ltI, nI_leI, nI_add, nI_clamp, pk_mul]
  by_cases e : a < F.2.1.length
  · rw [if_pos e, pk_sub (show 1 ≤ F.2.1.length by omega), pk_sub (show a ≤ F.2.1.length - 1 by omega)]
    simp (disch := omega) only [nI_eq, nI_ltI, nI_leI, nI_add, nI_clamp, pk_mul]
    rw [if_neg (by omega), hr.2.2.2.1 _ (by omega), show F.2.1.length - 1 - (F.2.1.length - 1 - a) = a by omega, List.getD_eq_getElem?_getD, List.getElem?_eq_getElem e]
    rfl
  · rw [if_neg e, List.getElem?_eq_none (by omega)]
    rfl
theorem sc_drop {M : zm_M} {f t : Nat} {L T : List Nat} {b : Bool} (h : rc_F M f (L, t :: T, b)) (ht : t < 2 ^ 31) : ∃ M', fn_fr_drop [.inr (23, f)] M = some M' ∧ zo_F f M M' ∧ rc_F M' f (L, T, b) := by
  have hw := sp_wd_le t
  have hl := sp_sl_len T
  obtain ⟨hr, hsl, h8⟩ := h
  have htop := rp_top hr
  dsimp only at hsl h8
  rw [sp_sl_c] at hsl h8
  have hd : M 23 f 2 = nI (T.length + 1) := hr.2.2.1
  rw [eq_fr_drop, hd]
  simp (disch := omega) only [zu_s, zu_e, zu_k, nz_0, nz_1, nz_2, nz_3, nz_4, nz_5, nz_6, nz_7, nz_8, nz_9, nz_10, nz_11, nz_12, nz_13, nz_14, nz_15, nz_16, nz_17, nz_18, nz_19, nz_20, nz_21, nz_22, nz_23, nz_24, nz_25, nz_26, nz_27, nz_28, nz_29, nz_30, nz_31, nz_32, nz_33, nz_34, nz_35, nz_36, nz_37, nz_38, nz_39, nz_40, nz_41, nz_42, nz_43, nz_44, nz_45, nz_46, nz_47, nz_48, nz_49, nz_50, nz_51, nz_63, nz_64, nz_66, nz_127, nz_128, nz_246, nz_247, nz_248, nz_250, nz_251, nz_252, nz_254, nz_255, nz_256, nz_400, nz_2500, pk_sub]
  rw [show T.length + 1 - 1 = T.length by omega]
  simp (disch := omega) only [nI_eq, nI_ltI, nI_leI, nI_add, nI_clamp, pk_mul]
  rw [if_pos (by omega), if_neg (by omega), htop, sc_width ht]
  refine ⟨_, rfl, (zo_F.up (by omega)).tr (zo_F.up (by omega)), ?_, ?_, by dsimp only; omega⟩
  · simp (disch := omega) only [zu_s, zu_e, zu_k]
    exact rp_pop hr rfl
  · simp (disch := omega) only [zu_s, zu_e, zu_k]
    rw [hsl, pk_sub (by omega)]
    congr 1
    omega
