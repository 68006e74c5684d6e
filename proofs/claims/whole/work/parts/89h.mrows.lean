/-! the reference: rows -/
def rm_w (M : zm_M) (r : Nat) (q : sp_W) : Prop := M 54 0 r = nI q.1 ∧ M 55 0 r = nI q.2.1 ∧ rp (fun j => M 57 0 (10 * r + j)) (fun j => M 58 0 (8 * r + j)) (M 56 0 r) (bI q.2.2.2.2) q.2.2 ∧ sp_sl q.2.2.2.1 ≤ 8 ∧ wf_F q.2.2
def rm_R (M : zm_M) (R : List sp_W) : Prop := R.length ≤ 50 ∧ M 35 0 34 = nI R.length ∧ ∀ i, i < R.length → rm_w M i (R.getD i wz)
def zo_w (s lo hi : Nat) (M M' : zm_M) : Prop := ∀ s' i k, ¬ (s' = s ∧ lo ≤ k ∧ k < hi) → M' s' i k = M s' i k
theorem zo_w.rf {s lo hi : Nat} {M : zm_M} : zo_w s lo hi M M := fun _ _ _ _ => rfl
theorem zo_w.tr {s lo hi : Nat} {M M1 M2 : zm_M} (h : zo_w s lo hi M M1) (h2 : zo_w s lo hi M1 M2) : zo_w s lo hi M M2 := fun s i k a => (h2 s i k a).trans (h s i k a)
theorem zo_w.u {s lo hi k : Nat} {x : Int32} {M : zm_M} (h : lo ≤ k) (h2 : k < hi) : zo_w s lo hi M (zm_up M s 0 k x) := by
  intro s' i j a
  by_cases e : s' = s
  · rw [zu_k (by omega)]
  · rw [zu_s e]
def zo_J (M M' : zm_M) : Prop := ∀ s i k, ¬ (s = 35 ∧ (k = 20 ∨ k = 21 ∨ k = 34 ∨ k = 37 ∨ k = 41 ∨ k = 42)) → ¬ (s = 47 ∨ s = 48 ∨ (54 ≤ s ∧ s ≤ 59)) → M' s i k = M s i k
theorem zo_J.rf {M : zm_M} : zo_J M M := fun _ _ _ _ _ => rfl
theorem zo_J.tr {M M1 M2 : zm_M} (h : zo_J M M1) (h2 : zo_J M1 M2) : zo_J M M2 := fun s i k a b => (h2 s i k a b).trans (h s i k a b)
theorem zo_J.P {M M' : zm_M} {P : sp_P} (h : zo_J M M') (hP : rm_P P M) : rm_P P M' := hP.kept (fun s h1 h2 => funext fun i => funext fun k => h s i k (by omega) (by omega)) (fun k hk => h 35 0 k (by omega) (by omega))
theorem zo_J.B {M M' : zm_M} {B : List Nat} (h : zo_J M M') (hB : rm_B M B) : rm_B M' B := ⟨by rw [h 35 0 7 (by omega) (by omega)]; exact hB.1, fun i hi => by rw [h 46 0 i (by omega) (by omega)]; exact hB.2 i hi⟩
theorem zo_J.O {M M' : zm_M} (h : zo_J M M') : zo_O M M' := fun s hs => funext fun i => funext fun k => h s i k (by omega) (by omega)
theorem zo_I.J {M M' : zm_M} (h : zo_I M M') : zo_J M M' := fun s i k a b => h s i k (by omega) (by omega) (by omega)
theorem zo_M.J {M M' : zm_M} (h : zo_M M M') : zo_J M M' := fun s i k a b => h s i k (by omega) (by omega) (by omega)
theorem zo_w.J {s lo hi : Nat} {M M' : zm_M} (hs : 54 ≤ s ∧ s ≤ 59) (h : zo_w s lo hi M M') : zo_J M M' := fun s' i k a b => h s' i k (by omega)
theorem zo_J.u {M : zm_M} {k : Nat} {x : Int32} (hk : k = 20 ∨ k = 21 ∨ k = 34 ∨ k = 37 ∨ k = 41 ∨ k = 42) : zo_J M (zm_up M 35 0 k x) := by
  intro s i j a b
  by_cases e : s = 35
  · rw [zu_k (by omega)]
  · rw [zu_s e]
theorem zo_J.a {M : zm_M} {s j : Nat} {x : Int32} (hs : 54 ≤ s ∧ s ≤ 59) : zo_J M (zm_up M s 0 j x) := fun s' i k a b => by rw [zu_s (by omega)]
theorem so_w124 {r : Nat} (hr : r < 50) {F : sp_F} {v1 v2 v3 v4 : Int32} {o6 : Option zm_V} : ∀ (k i n : Nat) (M : zm_M), i + k = F.2.1.length → k < n → rm_F M F → M 35 0 34 = nI r → (∀ j, j < i → M 58 0 (8 * r + j) = nI (F.2.1.getD (F.2.1.length - 1 - j) 0)) → ∃ M', rr_mo_readRows n 124 [some (.inr (35, 0)), some (.inl v1), some (.inl v2), some (.inl v3), some (.inl v4), some (.inl (nI i)), o6] [] M = rr_mo_readRows (n - k) 167 [some (.inr (35, 0)), some (.inl v1), some (.inl v2), some (.inl v3), some (.inl v4), some (.inl (nI 0)), some (.inl (nI 0))] [] M' ∧ zo_w 58 (8 * r) (8 * r + 8) M M' ∧ ∀ j, j < F.2.1.length → M' 58 0 (8 * r + j) = nI (F.2.1.getD (F.2.1.length - 1 - j) 0) := by
  intro k
  induction k with
  | zero =>
    intro i n M hk hn hF hM h
    obtain ⟨n, rfl⟩ : ∃ q, n = q + 1 := ⟨n - 1, by omega⟩
    have hl := rm_len hF
    rw [eq_mo_readRows_124, hF.1.2.2.1, if_neg (ni_nl (by omega) (by omega) (by omega))]
    simp only [nz_0, nz_1, nz_2, nz_3, nz_4, nz_5, nz_6, nz_7, nz_8, nz_9, nz_10, nz_11, nz_12, nz_13, nz_14, nz_15, nz_16, nz_17, nz_18, nz_19, nz_20, nz_21, nz_22, nz_23, nz_24, nz_25, nz_26, nz_27, nz_28, nz_29, nz_30, nz_31, nz_32, nz_33, nz_34, nz_35, nz_36, nz_37, nz_38, nz_39, nz_40, nz_41, nz_42, nz_43, nz_44, nz_45, nz_46, nz_47, nz_48, nz_49, nz_50, nz_51, nz_63, nz_64, nz_66, nz_127, nz_128, nz_246, nz_247, nz_248, nz_250, nz_251, nz_252, nz_254, nz_255, nz_256, nz_400, nz_2500]
    exact ⟨M, rfl, zo_w.rf, fun j hj => h j (by omega)⟩
  | succ k ih =>
    intro i n M hk hn hF hM h
    obtain ⟨n, rfl⟩ : ∃ q, n = q + 1 := ⟨n - 1, by omega⟩
    have hl := rm_len hF
    rw [eq_mo_readRows_124, hF.1.2.2.1, hM, if_pos (ni_lt (by omega) (by omega) (by omega)), nI_clamp (by omega)]
    simp only [nz_0, nz_1, nz_2, nz_3, nz_4, nz_5, nz_6, nz_7, nz_8, nz_9, nz_10, nz_11, nz_12, nz_13, nz_14, nz_15, nz_16, nz_17, nz_18, nz_19, nz_20, nz_21, nz_22, nz_23, nz_24, nz_25, nz_26, nz_27, nz_28, nz_29, nz_30, nz_31, nz_32, nz_33, nz_34, nz_35, nz_36, nz_37, nz_38, nz_39, nz_40, nz_41, nz_42, nz_43, nz_44, nz_45, nz_46, nz_47, nz_48, nz_49, nz_50, nz_51, nz_63, nz_64, nz_66, nz_127, nz_128, nz_246, nz_247, nz_248, nz_250, nz_251, nz_252, nz_254, nz_255, nz_256, nz_400, nz_2500, nI_add, pk_mul]
    rw [nI_clamp (by omega), if_neg (ni_in (show i < 9 by omega) (by omega)), if_neg (ni_in (show 8 * r + i < 3200 by omega) (by omega)), hF.1.2.2.2.1 i (by omega)]
    obtain ⟨M', a1, a2, a3⟩ := ih (i + 1) n (zm_up M 58 0 (8 * r + i) (nI (F.2.1.getD (F.2.1.length - 1 - i) 0))) (by omega) (by omega) (by
      unfold rm_F at hF ⊢
      rw [zu_s (by decide), zu_s (by decide), zu_s (by decide)]
      exact hF) (by rw [zu_s (by decide)]; exact hM) (by
      intro j hj
      by_cases e : j = i
      · rw [e, zu_e]
      · rw [zu_k (by omega)]
        exact h j (by omega))
    rw [a1, show n + 1 - (k + 1) = n - k by omega]
    exact ⟨M', rfl, (zo_w.u (by omega) (by omega)).tr a2, a3⟩
theorem so_w167 {r : Nat} (hr : r < 50) {v1 v2 v3 v4 v5 : Int32} : ∀ (k i n : Nat) (M : zm_M), i + k = 10 → k < n → M 35 0 34 = nI r → (∀ j, j < i → M 57 0 (10 * r + j) = nI 0) → ∃ M', rr_mo_readRows n 167 [some (.inr (35, 0)), some (.inl v1), some (.inl v2), some (.inl v3), some (.inl v4), some (.inl v5), some (.inl (nI i))] [] M = rr_mo_readRows (n - k) 199 [some (.inr (35, 0)), some (.inl v1), some (.inl v2), some (.inl v3), some (.inl v4), some (.inl v5), some (.inl (nI 0))] [] M' ∧ zo_w 57 (10 * r) (10 * r + 10) M M' ∧ ∀ j, j < 10 → M' 57 0 (10 * r + j) = nI 0 := by
  intro k
  induction k with
  | zero =>
    intro i n M hk hn hM h
    obtain ⟨n, rfl⟩ : ∃ q, n = q + 1 := ⟨n - 1, by omega⟩
    rw [eq_mo_readRows_167]
    simp only [nz_0, nz_1, nz_2, nz_3, nz_4, nz_5, nz_6, nz_7, nz_8, nz_9, nz_10, nz_11, nz_12, nz_13, nz_14, nz_15, nz_16, nz_17, nz_18, nz_19, nz_20, nz_21, nz_22, nz_23, nz_24, nz_25, nz_26, nz_27, nz_28, nz_29, nz_30, nz_31, nz_32, nz_33, nz_34, nz_35, nz_36, nz_37, nz_38, nz_39, nz_40, nz_41, nz_42, nz_43, nz_44, nz_45, nz_46, nz_47, nz_48, nz_49, nz_50, nz_51, nz_63, nz_64, nz_66, nz_127, nz_128, nz_246, nz_247, nz_248, nz_250, nz_251, nz_252, nz_254, nz_255, nz_256, nz_400, nz_2500]
    rw [if_neg (ni_nl (by omega) (by omega) (by omega))]
    exact ⟨M, rfl, zo_w.rf, fun j hj => h j (by omega)⟩
  | succ k ih =>
    intro i n M hk hn hM h
    obtain ⟨n, rfl⟩ : ∃ q, n = q + 1 := ⟨n - 1, by omega⟩
    rw [eq_mo_readRows_167, hM]
    simp only [nz_0, nz_1, nz_2, nz_3, nz_4, nz_5, nz_6, nz_7, nz_8, nz_9, nz_10, nz_11, nz_12, nz_13, nz_14, nz_15, nz_16, nz_17, nz_18, nz_19, nz_20, nz_21, nz_22, nz_23, nz_24, nz_25, nz_26, nz_27, nz_28, nz_29, nz_30, nz_31, nz_32, nz_33, nz_34, nz_35, nz_36, nz_37, nz_38, nz_39, nz_40, nz_41, nz_42, nz_43, nz_44, nz_45, nz_46, nz_47, nz_48, nz_49, nz_50, nz_51, nz_63, nz_64, nz_66, nz_127, nz_128, nz_246, nz_247, nz_248, nz_250, nz_251, nz_252, nz_254, nz_255, nz_256, nz_400, nz_2500, nI_add, pk_mul]
    rw [if_pos (ni_lt (by omega) (by omega) (by omega)), nI_clamp (by omega), if_neg (ni_in (show 10 * r + i < 4000 by omega) (by omega))]
    obtain ⟨M', a1, a2, a3⟩ := ih (i + 1) n (zm_up M 57 0 (10 * r + i) (nI 0)) (by omega) (by omega) (by rw [zu_s (by decide)]; exact hM) (by
      intro j hj
      by_cases e : j = i
      · rw [e, zu_e]
      · rw [zu_k (by omega)]
        exact h j (by omega))
    rw [a1, show n + 1 - (k + 1) = n - k by omega]
    exact ⟨M', rfl, (zo_w.u (by omega) (by omega)).tr a2, a3⟩
theorem so_w199 {r : Nat} (hr : r < 50) {X : List Nat} (h10 : sp_sl X ≤ 10) {v1 v2 v3 v4 : Int32} : ∀ (k i n : Nat) (M : zm_M), i + k = X.length → k < n → rm_X M X → M 35 0 34 = nI r → (∀ j, j < 10 → M 57 0 (10 * r + j) = nI ((sp_spr (X.take i)).getD j 0)) → ∃ M' o5 o6, rr_mo_readRows n 199 [some (.inr (35, 0)), some (.inl v1), some (.inl v2), some (.inl v3), some (.inl v4), some (.inl (nI (sp_spr (X.take i)).length)), some (.inl (nI i))] [] M = rr_mo_readRows (n - k - 1) 25 [some (.inr (35, 0)), some (.inl v1), some (.inl v2), some (.inl v3), some (.inl v4), o5, o6] [] (zm_up M' 35 0 34 (nI (r + 1))) ∧ zo_w 57 (10 * r) (10 * r + 10) M M' ∧ ∀ j, j < 10 → M' 57 0 (10 * r + j) = nI ((sp_spr X).getD j 0) := by
  intro k
  induction k with
  | zero =>
    intro i n M hk hn hX hM h
    obtain ⟨n, rfl⟩ : ∃ q, n = q + 1 := ⟨n - 1, by omega⟩
    have hl := hX.2.1
    rw [eq_mo_readRows_199, hX.1, hM, if_neg (ni_nl (by omega) (by omega) (by omega))]
    simp only [nz_0, nz_1, nz_2, nz_3, nz_4, nz_5, nz_6, nz_7, nz_8, nz_9, nz_10, nz_11, nz_12, nz_13, nz_14, nz_15, nz_16, nz_17, nz_18, nz_19, nz_20, nz_21, nz_22, nz_23, nz_24, nz_25, nz_26, nz_27, nz_28, nz_29, nz_30, nz_31, nz_32, nz_33, nz_34, nz_35, nz_36, nz_37, nz_38, nz_39, nz_40, nz_41, nz_42, nz_43, nz_44, nz_45, nz_46, nz_47, nz_48, nz_49, nz_50, nz_51, nz_63, nz_64, nz_66, nz_127, nz_128, nz_246, nz_247, nz_248, nz_250, nz_251, nz_252, nz_254, nz_255, nz_256, nz_400, nz_2500, nI_add]
    rw [List.take_of_length_le (by omega)] at h
    exact ⟨M, _, _, rfl, zo_w.rf, h⟩
  | succ k ih =>
    intro i n M hk hn hX hM h
    obtain ⟨n, rfl⟩ : ∃ q, n = q + 1 := ⟨n - 1, by omega⟩
    have hl := hX.2.1
    have hwl : X.getD i 0 < 2 ^ 31 := hX.2.2.2 _ (gd_mem (by omega))
    have hsl := sl_tk X (show i < X.length by omega)
    have hwd := sp_wd_le (X.getD i 0)
    have hlt : (sp_spr (X.take i)).length < 10 := by rw [spr_sl]; omega
    have hlen : (sp_spr (X.take (i + 1))).length = (sp_spr (X.take i)).length + sp_wd (X.getD i 0) := by
      rw [spr_tk (by omega), List.length_append, (spr_1 _).1]
    rw [eq_mo_readRows_199, hX.1, hM, if_pos (ni_lt (by omega) (by omega) (by omega)), nI_clamp (by omega)]
    simp only [nz_0, nz_1, nz_2, nz_3, nz_4, nz_5, nz_6, nz_7, nz_8, nz_9, nz_10, nz_11, nz_12, nz_13, nz_14, nz_15, nz_16, nz_17, nz_18, nz_19, nz_20, nz_21, nz_22, nz_23, nz_24, nz_25, nz_26, nz_27, nz_28, nz_29, nz_30, nz_31, nz_32, nz_33, nz_34, nz_35, nz_36, nz_37, nz_38, nz_39, nz_40, nz_41, nz_42, nz_43, nz_44, nz_45, nz_46, nz_47, nz_48, nz_49, nz_50, nz_51, nz_63, nz_64, nz_66, nz_127, nz_128, nz_246, nz_247, nz_248, nz_250, nz_251, nz_252, nz_254, nz_255, nz_256, nz_400, nz_2500, nI_add, pk_mul]
    rw [nI_clamp (by omega)]
    simp only [if_neg (ni_in (show i < 12 by omega) (show i < 2 ^ 31 by omega))]
    rw [if_neg (ni_in (show 10 * r + (sp_spr (X.take i)).length < 4000 by omega) (by omega)), hX.2.2.1 i (by omega), so_wide hwl]
    simp only [Option.bind_some, bI_0]
    obtain ⟨M', o5, o6, a1, a2, a3⟩ := ih (i + 1) n (zm_up M 57 0 (10 * r + (sp_spr (X.take i)).length) (nI (X.getD i 0))) (by omega) (by omega) ⟨by rw [zu_s (by decide)]; exact hX.1, hX.2.1, fun i hi => by rw [zu_s (by decide)]; exact hX.2.2.1 i hi, hX.2.2.2⟩ (by rw [zu_s (by decide)]; exact hM) (by
      intro j hj
      rw [spr_tk_gd (by omega)]
      by_cases e : j = (sp_spr (X.take i)).length
      · rw [if_pos e, e]
        exact zu_e
      · rw [if_neg e, zu_k (by omega)]
        exact h j hj)
    rw [hlen] at a1
    refine ⟨M', o5, o6, ?_, (zo_w.u (by omega) (by omega)).tr a2, a3⟩
    rw [show n + 1 - (k + 1) - 1 = n - k - 1 by omega]
    by_cases e : sp_wd (X.getD i 0) = 2
    · rw [if_neg (by rw [e]; decide)]
      rw [e] at a1
      exact a1
    · have e1 : sp_wd (X.getD i 0) = 1 := by omega
      rw [if_pos (by rw [e1]; rfl)]
      rw [e1] at a1
      exact a1
theorem ms_s.kept {M M' : zm_M} {B X L T : List Nat} {b : Bool} {D : List Nat} (h : ms_s M B X L T b D) (h46 : M' 46 = M 46) (h47 : M' 47 = M 47) (h48 : M' 48 = M 48) (h59 : M' 59 = M 59) (h35 : ∀ k, k ≠ 34 → M' 35 0 k = M 35 0 k) : ms_s M' B X L T b D := by
  obtain ⟨h1, h2, h3, h4, h5, h6, h7, h8⟩ := h
  refine ⟨⟨by rw [h35 7 (by decide)]; exact h1.1, by rw [h46]; exact h1.2⟩, h2.k (h35 41 (by decide)) (h35 42 (by decide)), h3, ⟨by rw [h35 37 (by decide)]; exact h4.1, h4.2.1, by rw [h59]; exact h4.2.2.1, h4.2.2.2⟩, h5, h6, ?_, h8⟩
  unfold rm_F at h7 ⊢
  rw [h47, h48, h35 20 (by decide), h35 21 (by decide)]
  exact h7
/-- a row is put down -/
theorem so_store {M : zm_M} {B X L T D : List Nat} {b : Bool} {A : List sp_W} {off c n : Nat} {v3 : Int32} {o6 : Option zm_V} (hA : A.length < 50) (h : ms_s M B X L T b D) (hR : rm_R M A) (hn : 40 < n) : ∃ M' o2 o3 o4 o5 o6', rr_mo_readRows n 124 [some (.inr (35, 0)), some (.inl (nI off)), some (.inl (nI c)), some (.inl v3), some (.inl (nI off)), some (.inl (nI 0)), o6] [] (zm_up (zm_up (zm_up M 54 0 A.length (nI off)) 55 0 A.length (nI c)) 56 0 A.length (nI T.length)) = rr_mo_readRows (n - (T.length + X.length + 11)) 25 [some (.inr (35, 0)), some (.inl (nI off)), o2, o3, o4, o5, o6'] [] M' ∧ zo_J M M' ∧ ms_s M' B X L T b D ∧ rm_R M' (A ++ [(off, c, rw_F X T)]) := by
  obtain ⟨hA50, h34, hAw⟩ := hR
  have hF := h.2.2.2.2.2.2.1
  have hT : T.length ≤ 8 := rm_len hF
  have hX := h.2.2.2.1
  have hXl := hX.2.1
  have e0 : ∀ s, s ≠ 54 → s ≠ 55 → s ≠ 56 → zm_up (zm_up (zm_up M 54 0 A.length (nI off)) 55 0 A.length (nI c)) 56 0 A.length (nI T.length) s = M s := by
    intro s p q t
    rw [zu_s t, zu_s q, zu_s p]
  have z0 : zo_J M (zm_up (zm_up (zm_up M 54 0 A.length (nI off)) 55 0 A.length (nI c)) 56 0 A.length (nI T.length)) := ((zo_J.a (by omega)).tr (zo_J.a (by omega))).tr (zo_J.a (by omega))
  have q54 : zm_up (zm_up (zm_up M 54 0 A.length (nI off)) 55 0 A.length (nI c)) 56 0 A.length (nI T.length) 54 0 A.length = nI off := by rw [zu_s (by decide), zu_s (by decide), zu_e]
  have q55 : zm_up (zm_up (zm_up M 54 0 A.length (nI off)) 55 0 A.length (nI c)) 56 0 A.length (nI T.length) 55 0 A.length = nI c := by rw [zu_s (by decide), zu_e]
  have q56 : zm_up (zm_up (zm_up M 54 0 A.length (nI off)) 55 0 A.length (nI c)) 56 0 A.length (nI T.length) 56 0 A.length = nI T.length := zu_e
  have qo : ∀ s i, i ≠ A.length → zm_up (zm_up (zm_up M 54 0 A.length (nI off)) 55 0 A.length (nI c)) 56 0 A.length (nI T.length) s 0 i = M s 0 i := by
    intro s i hi
    rw [zu_k hi, zu_k hi, zu_k hi]
  generalize zm_up (zm_up (zm_up M 54 0 A.length (nI off)) 55 0 A.length (nI c)) 56 0 A.length (nI T.length) = M0 at e0 z0 q54 q55 q56 qo ⊢
  have h34' : M0 35 0 34 = nI A.length := by rw [e0 35 (by decide) (by decide) (by decide)]; exact h34
  obtain ⟨M1, a1, a2, a3⟩ := so_w124 hA (F := (L, T, b)) (v1 := nI off) (v2 := nI c) (v3 := v3) (v4 := nI off) (o6 := o6) T.length 0 n M0 (by simp) (by omega) (by
    unfold rm_F at hF ⊢
    rw [e0 47 (by decide) (by decide) (by decide), e0 48 (by decide) (by decide) (by decide), e0 35 (by decide) (by decide) (by decide)]
    exact hF) h34' (fun j hj => absurd hj (by omega))
  obtain ⟨M2, b1, b2, b3⟩ := so_w167 hA (v1 := nI off) (v2 := nI c) (v3 := v3) (v4 := nI off) (v5 := nI 0) 10 0 (n - T.length) M1 (by omega) (by omega) (by rw [a2 35 0 34 (by omega)]; exact h34') (fun j hj => absurd hj (by omega))
  obtain ⟨M3, o5, o6', c1, c2, c3⟩ := so_w199 hA h.2.2.2.2.2.1 (v1 := nI off) (v2 := nI c) (v3 := v3) (v4 := nI off) X.length 0 (n - T.length - 10) M2 (by omega) (by omega) ⟨by rw [b2 35 0 37 (by omega), a2 35 0 37 (by omega), e0 35 (by decide) (by decide) (by decide)]; exact hX.1, hX.2.1, fun i hi => by rw [b2 59 0 i (by omega), a2 59 0 i (by omega), e0 59 (by decide) (by decide) (by decide)]; exact hX.2.2.1 i hi, hX.2.2.2⟩ (by rw [b2 35 0 34 (by omega), a2 35 0 34 (by omega)]; exact h34') (by
    intro j hj
    rw [b3 j hj]
    rfl)
  rw [a1, b1]
  rw [show (sp_spr (X.take 0)).length = 0 from rfl] at c1
  rw [c1, show n - T.length - 10 - X.length - 1 = n - (T.length + X.length + 11) by omega]
  have k3 : ∀ s i k, s ≠ 57 → s ≠ 58 → M3 s i k = M0 s i k := by
    intro s i k p q
    rw [c2 s i k (by omega), b2 s i k (by omega), a2 s i k (by omega)]
  have k3s : ∀ s, s ≠ 57 → s ≠ 58 → M3 s = M0 s := fun s p q => funext fun i => funext fun k => k3 s i k p q
  refine ⟨_, _, _, _, _, _, rfl, ?_, ?_, ?_⟩
  · exact (((z0.tr (a2.J (by omega))).tr (b2.J (by omega))).tr (c2.J (by omega))).tr (zo_J.u (by omega))
  · refine h.kept ?_ ?_ ?_ ?_ ?_
    · rw [zu_s (by decide), k3s 46 (by decide) (by decide), e0 46 (by decide) (by decide) (by decide)]
    · rw [zu_s (by decide), k3s 47 (by decide) (by decide), e0 47 (by decide) (by decide) (by decide)]
    · rw [zu_s (by decide), k3s 48 (by decide) (by decide), e0 48 (by decide) (by decide) (by decide)]
    · rw [zu_s (by decide), k3s 59 (by decide) (by decide), e0 59 (by decide) (by decide) (by decide)]
    · intro k hk
      rw [zu_k hk, k3s 35 (by decide) (by decide), e0 35 (by decide) (by decide) (by decide)]
  · refine ⟨by simp; omega, ?_, ?_⟩
    · rw [zu_e, List.length_append]
      rfl
    · intro i hi
      rw [List.length_append, List.length_singleton] at hi
      rw [gd_sn]
      by_cases e : i = A.length
      · rw [if_pos e]
        subst e
        unfold rm_w
        rw [zu_s (by decide), zu_s (by decide), zu_s (by decide), zu_s (by decide), zu_s (by decide)]
        refine ⟨?_, ?_, ⟨sp_sp_len X, ?_, ?_, ?_, rfl⟩, hF.2, sp_sp_wt h.2.2.2.2.1, h.2.2.2.2.2.2.2⟩
        · rw [k3 54 0 _ (by decide) (by decide)]
          exact q54
        · rw [k3 55 0 _ (by decide) (by decide)]
          exact q55
        · intro j hj
          show M3 57 0 (10 * A.length + j) = nI ((sp_sp X).getD j 0)
          rw [sp_sp_gd hj]
          exact c3 j hj
        · rw [k3 56 0 _ (by decide) (by decide)]
          exact q56
        · intro j hj
          show M3 58 0 (8 * A.length + j) = _
          rw [c2 58 0 _ (by omega), b2 58 0 _ (by omega)]
          exact a3 j hj
      · rw [if_neg e]
        have hi' : i < A.length := by omega
        obtain ⟨w1, w2, ⟨w3, w4, w5, w6, w7⟩, w8, w9⟩ := hAw i hi'
        have hil : (A.getD i wz).2.2.2.1.length ≤ 8 := Nat.le_trans (sp_sl_len _) w8
        unfold rm_w
        rw [zu_s (by decide), zu_s (by decide), zu_s (by decide), zu_s (by decide), zu_s (by decide)]
        refine ⟨?_, ?_, ⟨w3, ?_, ?_, ?_, rfl⟩, w8, w9⟩
        · rw [k3 54 0 _ (by decide) (by decide), qo 54 i e]
          exact w1
        · rw [k3 55 0 _ (by decide) (by decide), qo 55 i e]
          exact w2
        · intro j hj
          show M3 57 0 (10 * i + j) = _
          rw [c2 57 0 _ (by omega), b2 57 0 _ (by omega), a2 57 0 _ (by omega), e0 57 (by decide) (by decide) (by decide)]
          exact w4 j hj
        · rw [k3 56 0 _ (by decide) (by decide), qo 56 i e]
          exact w5
        · intro j hj
          show M3 58 0 (8 * i + j) = _
          rw [c2 58 0 _ (by omega), b2 58 0 _ (by omega), a2 58 0 _ (by omega), e0 58 (by decide) (by decide) (by decide)]
          exact w6 j hj
