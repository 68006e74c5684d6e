/-! the class: a FRAME becomes THE FIRST one -/
/-- only the array (s, f) is another -/
def zo_a (s f : Nat) (M M' : zm_M) : Prop := ∀ s' i k, (s' ≠ s ∨ i ≠ f) → M' s' i k = M s' i k
theorem zo_a.rf {s f : Nat} {M : zm_M} : zo_a s f M M := fun _ _ _ _ => rfl
theorem zo_a.tr {s f : Nat} {M M1 M2 : zm_M} (h : zo_a s f M M1) (h2 : zo_a s f M1 M2) : zo_a s f M M2 := fun s' i k hs => (h2 s' i k hs).trans (h s' i k hs)
theorem zo_a.up {s f k : Nat} {x : Int32} {M : zm_M} : zo_a s f M (zm_up M s f k x) := by
  intro s' i' k' h
  unfold zm_up
  by_cases h1 : s' = s
  · by_cases h2 : i' = f
    · omega
    · simp [h2]
  · simp [h1]
theorem zo_a.s {s f s' : Nat} {M M' : zm_M} (h : zo_a s f M M') (hs : s' ≠ s) : M' s' = M s' := by
  funext i k
  exact h s' i k (Or.inl hs)
theorem zo_a.i {s f s' i : Nat} {M M' : zm_M} (h : zo_a s f M M') (hi : i ≠ f) : M' s' i = M s' i := by
  funext k
  exact h s' i k (Or.inr hi)
theorem zo_a.F {s f : Nat} {M M' : zm_M} (h : zo_a s f M M') (hs : 22 < s ∧ s < 26) : zo_F f M M' := fun s' i k q => h s' i k (by omega)
theorem sc_fill_lp {f : Nat} {x : Int32} : ∀ (k i n : Nat) (M : zm_M), i + k = 10 → k < n → (∀ j, j < i → M 24 f j = x) → ∃ M', rr_ja_fill n 5 [some (.inr (24, f)), some (.inl x), some (.inl (nI i)), some (.inl (nI 10))] [] M = some M' ∧ zo_a 24 f M M' ∧ ∀ j, j < 10 → M' 24 f j = x := by
  intro k
  induction k with
  | zero =>
    intro i n M hi hn hM
    obtain ⟨n, rfl⟩ : ∃ m, n = m + 1 := ⟨n - 1, by omega⟩
    rw [eq_ja_fill_5a, if_neg (ni_nl (by omega) (by omega) (by omega))]
    exact ⟨M, rfl, zo_a.rf, fun j hj => hM j (by omega)⟩
  | succ k ih =>
    intro i n M hi hn hM
    obtain ⟨n, rfl⟩ : ∃ m, n = m + 1 := ⟨n - 1, by omega⟩
    rw [eq_ja_fill_5a, if_pos (ni_lt (by omega) (by omega) (by omega)), nI_clamp (by omega)]
    simp only [nz_0, nz_1, nI_add]
    rw [if_neg (ni_in (show i < 10 by omega) (by omega))]
    obtain ⟨M', h1, h2, h3⟩ := ih (i + 1) n (zm_up M 24 f i x) (by omega) (by omega) (by
      intro j hj
      by_cases e : j = i
      · subst e
        exact zu_e
      · rw [zu_k e]
        exact hM j (by omega))
    exact ⟨M', h1, zo_a.up.tr h2, h3⟩
theorem sc_fill {f : Nat} {x : Int32} (M : zm_M) : ∃ M', fn_ja_fill [.inr (24, f), .inl x] M = some M' ∧ zo_a 24 f M M' ∧ ∀ j, j < 10 → M' 24 f j = x := by
  rw [eq_ja_filla, show (1073741824 : Nat) = 1073741823 + 1 from rfl, eq_ja_fill_0a, nz_0]
  exact sc_fill_lp 10 0 _ M (by omega) (by omega) (fun j hj => by omega)
theorem spr_c (t : Nat) (l : List Nat) : sp_spr (t :: l) = if sp_wd t = 2 then t :: 0 :: sp_spr l else t :: sp_spr l := rfl
theorem spr_app : ∀ (a b : List Nat), sp_spr (a ++ b) = sp_spr a ++ sp_spr b
  | [], b => rfl
  | t :: a, b => by
    have := spr_app a b
    rw [List.cons_append, spr_c, spr_c, this]
    split <;> rfl
/-- the LOCALS that i ARGUMENTS fill -/
def sp_xi (P : sp_P) (i : Nat) : List Nat := sp_hd P ++ sp_spr ((pg_arg P).take i)
theorem sp_xi_s {P : sp_P} {i : Nat} (h : i < (pg_arg P).length) : sp_xi P (i + 1) = sp_xi P i ++ sp_spr [(pg_arg P).getD i 0] := by
  unfold sp_xi
  rw [List.take_add_one, List.getElem?_eq_getElem h, Option.toList_some, spr_app, List.append_assoc, List.getD_eq_getElem?_getD, List.getElem?_eq_getElem h]
  rfl
theorem spr_1 (t : Nat) : (sp_spr [t]).length = sp_wd t ∧ ∀ j, (sp_spr [t]).getD j 0 = if j = 0 then t else 0 := by
  have := sp_wd_le t
  rw [spr_c]
  split
  · next e =>
    rw [e]
    refine ⟨rfl, ?_⟩
    intro j
    match j with
    | 0 => rfl
    | 1 => rfl
    | j + 2 => rfl
  · next e =>
    refine ⟨?_, ?_⟩
    · show 1 = sp_wd t
      omega
    · intro j
      match j with
      | 0 => rfl
      | j + 1 => rfl
theorem gd_app {A B : List Nat} {j : Nat} : (A ++ B).getD j 0 = if j < A.length then A.getD j 0 else B.getD (j - A.length) 0 := by
  rw [List.getD_eq_getElem?_getD, List.getElem?_append]
  split
  · rw [List.getD_eq_getElem?_getD]
  · rw [List.getD_eq_getElem?_getD]
theorem gd_out {A : List Nat} {j : Nat} (h : A.length ≤ j) : A.getD j 0 = 0 := by
  rw [List.getD_eq_getElem?_getD, List.getElem?_eq_none h]
  rfl
theorem sp_xi_gd {P : sp_P} {i : Nat} (h : i < (pg_arg P).length) (j : Nat) : (sp_xi P (i + 1)).getD j 0 = if j = (sp_xi P i).length then (pg_arg P).getD i 0 else (sp_xi P i).getD j 0 := by
  rw [sp_xi_s h, gd_app]
  split
  · next e => rw [if_neg (by omega)]
  · next e =>
    rw [(spr_1 _).2]
    by_cases e2 : j = (sp_xi P i).length
    · rw [if_pos (by omega), if_pos e2]
    · rw [if_neg (by omega), if_neg e2, gd_out (by omega)]
theorem sp_xi_len {P : sp_P} {i : Nat} (h : i < (pg_arg P).length) : (sp_xi P (i + 1)).length = (sp_xi P i).length + sp_wd ((pg_arg P).getD i 0) := by
  rw [sp_xi_s h, List.length_append, (spr_1 _).1]
theorem sp_xi_le {P : sp_P} (hP : wf_P P) {i : Nat} (h : i ≤ (pg_arg P).length) : (sp_xi P i).length ≤ 9 := by
  have h1 := spr_len ((pg_arg P).take i)
  have h2 : (sp_hd P).length ≤ 1 := by
    unfold sp_hd
    split
    · simp
    · split <;> simp
  have h3 := hP.2.2.2.1
  have h4 : ((pg_arg P).take i).length ≤ 4 := by rw [List.length_take]; omega
  unfold sp_xi
  rw [List.length_append]
  omega
theorem sp_xi_lt {P : sp_P} (hP : wf_P P) {i : Nat} (h : i < (pg_arg P).length) : (sp_xi P i).length < 9 := by
  have h1 := sp_xi_len h
  have h2 := sp_xi_le hP (show i + 1 ≤ _ by omega)
  have := sp_wd_le ((pg_arg P).getD i 0)
  omega
theorem sp_fst_gd {P : sp_P} (hP : wf_P P) {j : Nat} (hj : j < 10) : (sp_fst P).1.getD j 0 = (sp_xi P (pg_arg P).length).getD j 0 := by
  show (List.take 10 _).getD j 0 = _
  rw [List.getD_eq_getElem?_getD, List.getElem?_take, if_pos hj, ← List.getD_eq_getElem?_getD, gd_app]
  unfold sp_xi
  rw [List.take_length]
  split
  · rfl
  · next e =>
    rw [gd_out (show (sp_hd P ++ sp_spr (pg_arg P)).length ≤ j by omega), List.getD_eq_getElem?_getD, List.getElem?_replicate]
    split <;> rfl
theorem wf_arg {P : sp_P} (hP : wf_P P) (i : Nat) : sp_wt ((pg_arg P).getD i 0) := wt_gd (fun t ht => (hP.2.2.2.2.1 t ht).wt) i
theorem sc_enter_lp {P : sp_P} (hwP : wf_P P) {f : Nat} : ∀ (k i n : Nat) (M : zm_M), i + k = (pg_arg P).length → k < n → rc_P P M → (∀ j, j < 10 → M 24 f j = nI ((sp_xi P i).getD j 0)) → ∃ M', rr_pr_enter n 69 [some (.inr (5, 0)), some (.inr (23, f)), some (.inl (nI (sp_xi P i).length)), some (.inl (nI i))] [] M = some M' ∧ zo_a 24 f M M' ∧ ∀ j, j < 10 → M' 24 f j = nI ((sp_xi P (pg_arg P).length).getD j 0) := by
  have h4 : (pg_arg P).length ≤ 4 := hwP.2.2.2.1
  intro k
  induction k with
  | zero =>
    intro i n M hi hn hP hM
    obtain ⟨n, rfl⟩ : ∃ m, n = m + 1 := ⟨n - 1, by omega⟩
    rw [eq_pr_enter_69, hP.2.2.2.2.1, if_neg (ni_nl (by omega) (by omega) (by omega))]
    have : i = (pg_arg P).length := by omega
    rw [this] at hM
    exact ⟨M, rfl, zo_a.rf, hM⟩
  | succ k ih =>
    intro i n M hi hn hP hM
    obtain ⟨n, rfl⟩ : ∃ m, n = m + 1 := ⟨n - 1, by omega⟩
    have hlt := sp_xi_lt hwP (show i < _ by omega)
    have hwl := sp_wt_lt (wf_arg hwP i)
    rw [eq_pr_enter_69, hP.2.2.2.2.1, if_pos (ni_lt (by omega) (by omega) (by omega)), nI_clamp (by omega), nI_clamp (by omega), hP.2.2.2.2.2.1 i (by omega)]
    simp only [nz_0, nz_1, nI_add]
    rw [if_neg (ni_in (show i < 4 by omega) (by omega)), if_neg (ni_in (show (sp_xi P i).length < 10 by omega) (by omega)), if_neg (ni_in (show i < 4 by omega) (by omega)), sc_width (by omega)]
    simp only [Option.bind_some, nI_add]
    rw [← sp_xi_len (by omega)]
    obtain ⟨M', h1, h2, h3⟩ := ih (i + 1) n (zm_up M 24 f (sp_xi P i).length (nI ((pg_arg P).getD i 0))) (by omega) (by omega) (hP.zo (zo_F.up (by omega))) (by
      intro j hj
      rw [sp_xi_gd (by omega)]
      by_cases e : j = (sp_xi P i).length
      · rw [if_pos e, e]
        exact zu_e
      · rw [if_neg e, zu_k e]
        exact hM j hj)
    exact ⟨M', h1, zo_a.up.tr h2, h3⟩
theorem sc_enter {P : sp_P} {M : zm_M} {f : Nat} (hwP : wf_P P) (hP : rc_P P M) : ∃ M', fn_pr_enter [.inr (5, 0), .inr (23, f)] M = some M' ∧ zo_F f M M' ∧ rc_F M' f (sp_fst P) := by
  have h4 : (pg_arg P).length ≤ 4 := hwP.2.2.2.1
  have hown : pg_own P < 8 := hwP.2.1
  have hm := hwP.2.2.1
  obtain ⟨M1, a1, a2, a3⟩ := sc_fill (f := f) (x := nI 0) M
  have hP1 := hP.zo (a2.F (by omega))
  rw [eq_pr_enter, show (1073741824 : Nat) = 1073741823 + 1 from rfl, eq_pr_enter_0]
  simp only [nz_0, nz_1, nz_2, nz_3, nz_4, nz_5, nz_6, nz_7, nz_8, nz_9, nz_10, nz_11, nz_12, nz_13, nz_14, nz_15, nz_16, nz_17, nz_18, nz_19, nz_20, nz_21, nz_22, nz_23, nz_24, nz_25, nz_26, nz_27, nz_28, nz_29, nz_30, nz_31, nz_32, nz_33, nz_34, nz_35, nz_36, nz_37, nz_38, nz_39, nz_40, nz_41, nz_42, nz_43, nz_44, nz_45, nz_46, nz_47, nz_48, nz_49, nz_50, nz_51, nz_63, nz_64, nz_66, nz_127, nz_128, nz_246, nz_247, nz_248, nz_250, nz_251, nz_252, nz_254, nz_255, nz_256, nz_400, nz_2500]
  rw [a1, Option.bind_some, eq_fr_emptyStack, Option.bind_some]
  simp only [nz_0, nz_1, nz_2, nz_3, nz_4, nz_5, nz_6, nz_7, nz_8, nz_9, nz_10, nz_11, nz_12, nz_13, nz_14, nz_15, nz_16, nz_17, nz_18, nz_19, nz_20, nz_21, nz_22, nz_23, nz_24, nz_25, nz_26, nz_27, nz_28, nz_29, nz_30, nz_31, nz_32, nz_33, nz_34, nz_35, nz_36, nz_37, nz_38, nz_39, nz_40, nz_41, nz_42, nz_43, nz_44, nz_45, nz_46, nz_47, nz_48, nz_49, nz_50, nz_51, nz_63, nz_64, nz_66, nz_127, nz_128, nz_246, nz_247, nz_248, nz_250, nz_251, nz_252, nz_254, nz_255, nz_256, nz_400, nz_2500]
  -- what the rest does, from the store M3 on
  have rest : ∀ (M3 : zm_M) (b : Bool) (n l : Nat), 4 < n → l = (sp_xi P 0).length → zo_F f M M3 → M3 23 f 2 = nI 0 → M3 23 f 3 = nI 0 → M3 23 f 4 = bI b → b = (pg_mode P == 2) → (∀ j, j < 10 → M3 24 f j = nI ((sp_xi P 0).getD j 0)) → ∃ M', rr_pr_enter n 69 [some (.inr (5, 0)), some (.inr (23, f)), some (.inl (nI l)), some (.inl (nI 0))] [] M3 = some M' ∧ zo_F f M M' ∧ rc_F M' f (sp_fst P) := by
    intro M3 b n l hn hl hz c1 c2 c3 hb hM
    obtain ⟨M', h1, h2, h3⟩ := sc_enter_lp hwP (pg_arg P).length 0 n M3 (by omega) (by omega) (hP.zo hz) hM
    rw [hl]
    refine ⟨M', h1, hz.tr (h2.F (by omega)), ⟨(fst_ok hwP).2.1, ?_, ?_, ?_, ?_⟩, ?_, ?_⟩
    · intro j hj
      rw [sp_fst_gd hwP hj]
      exact h3 j hj
    · rw [h2.s (by decide)]
      exact c1
    · intro i hi
      exact absurd hi (by show ¬ i < 0; omega)
    · rw [h2.s (by decide), c3, hb]
      rfl
    · rw [h2.s (by decide)]
      exact c2
    · exact Nat.zero_le 8
  have hx0 : sp_xi P 0 = sp_hd P := by
    unfold sp_xi
    rw [List.take_zero]
    exact List.append_nil _
  have z1 : zo_F f M (zm_up (zm_up M1 23 f 2 (nI 0)) 23 f 3 (nI 0)) := (a2.F (by omega)).tr ((zo_F.up (by omega)).tr (zo_F.up (by omega)))
  have hP2 := hP.zo z1
  rw [hP2.2.2.1, hP2.2.1]
  have g24 : ∀ j, j < 10 → zm_up (zm_up M1 23 f 2 (nI 0)) 23 f 3 (nI 0) 24 f j = nI 0 := by
    intro j hj
    simp (disch := omega) only [zu_s, zu_e, zu_k]
    exact a3 j hj
  generalize hX : zm_up (zm_up M1 23 f 2 (nI 0)) 23 f 3 (nI 0) = X at z1 hP2 g24
  have k2 : X 23 f 2 = nI 0 := by rw [← hX]; simp (disch := omega) only [zu_s, zu_e, zu_k]
  have k3 : X 23 f 3 = nI 0 := by rw [← hX]; simp (disch := omega) only [zu_s, zu_e, zu_k]
  rcases (show pg_mode P = 0 ∨ pg_mode P = 1 ∨ pg_mode P = 2 by omega) with e | e | e
  · rw [if_neg (ni_ne (by omega) (by omega) (by omega)), if_pos (by rw [e])]
    have hh : sp_hd P = [] := by unfold sp_hd; rw [if_pos e]
    refine rest (zm_up X 23 f 4 (nI 0)) false (1073741823 + 1) 0 (by omega) (by rw [hx0, hh]; rfl) (z1.tr (zo_F.up (by omega))) (by rw [zu_k (by decide)]; exact k2) (by rw [zu_k (by decide)]; exact k3) (by rw [zu_e]; rfl) (by rw [e]; rfl) (by
      intro j hj
      rw [hx0, hh, zu_s (by decide), g24 j hj]
      rfl)
  · rw [if_neg (ni_ne (by omega) (by omega) (by omega)), if_neg (ni_ne (by omega) (by omega) (by omega)), zu_e, if_pos rfl, sc_type]
    simp only [Option.bind_some]
    rw [if_neg (by decide), nI_clamp (by omega)]
    have hh : sp_hd P = [16 * pg_own P + 7] := by unfold sp_hd; rw [if_neg (by omega), if_neg (by omega)]
    refine rest (zm_up (zm_up X 23 f 4 (nI 0)) 24 f 0 (nI (16 * pg_own P + 7))) false (1073741823 + 1) 1 (by omega) (by rw [hx0, hh]; rfl) (z1.tr ((zo_F.up (by omega)).tr (zo_F.up (by omega)))) (by simp (disch := omega) only [zu_s, zu_e, zu_k]; exact k2) (by simp (disch := omega) only [zu_s, zu_e, zu_k]; exact k3) (by simp (disch := omega) only [zu_s, zu_e, zu_k]; rfl) (by rw [e]; rfl) (by
      intro j hj
      rw [hx0, hh]
      by_cases e0 : j = 0
      · subst e0
        rw [zu_e]
        rfl
      · rw [zu_k e0, zu_s (by decide), g24 j hj, gd_out (by simp; omega)])
  · rw [if_pos (by rw [e]), if_neg (ni_ne (by omega) (by omega) (by omega)), zu_e, if_neg (by decide), if_neg (by decide), nI_clamp (by omega)]
    have hh : sp_hd P = [6] := by unfold sp_hd; rw [if_neg (by omega), if_pos e]
    refine rest (zm_up (zm_up X 23 f 4 (nI 1)) 24 f 0 (nI 6)) true (1073741823 + 1) 1 (by omega) (by rw [hx0, hh]; rfl) (z1.tr ((zo_F.up (by omega)).tr (zo_F.up (by omega)))) (by simp (disch := omega) only [zu_s, zu_e, zu_k]; exact k2) (by simp (disch := omega) only [zu_s, zu_e, zu_k]; exact k3) (by simp (disch := omega) only [zu_s, zu_e, zu_k]; rfl) (by rw [e]; rfl) (by
      intro j hj
      rw [hx0, hh]
      by_cases e0 : j = 0
      · subst e0
        rw [zu_e]
        rfl
      · rw [zu_k e0, zu_s (by decide), g24 j hj, gd_out (by simp; omega)])
