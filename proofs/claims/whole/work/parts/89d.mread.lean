/-! the reference reads -/
def zo_I (M M' : zm_M) : Prop := ∀ s i k, ¬ (s = 35 ∧ (k = 20 ∨ k = 37 ∨ k = 41 ∨ k = 42)) → s ≠ 48 → s ≠ 59 → M' s i k = M s i k
theorem zo_I.rf {M : zm_M} : zo_I M M := fun _ _ _ _ _ _ => rfl
theorem zo_I.tr {M M1 M2 : zm_M} (h : zo_I M M1) (h2 : zo_I M1 M2) : zo_I M M2 := fun s i k a b c => (h2 s i k a b c).trans (h s i k a b c)
theorem zo_I.u {M : zm_M} {k : Nat} {x : Int32} (hk : k = 20 ∨ k = 37 ∨ k = 41 ∨ k = 42) : zo_I M (zm_up M 35 0 k x) := by
  intro s i j a b c
  by_cases e : s = 35
  · rw [zu_k (by omega)]
  · rw [zu_s e]
theorem zo_I.a {M : zm_M} {s j : Nat} {x : Int32} (hs : s = 48 ∨ s = 59) : zo_I M (zm_up M s 0 j x) := fun s' i k a b c => by rw [zu_s (by omega)]
def rd_M (M : zm_M) (B D : List Nat) (br : Bool) : Prop := ∃ q, D = B.drop q ∧ q ≤ B.length ∧ M 35 0 41 = nI q ∧ M 35 0 42 = bI br
def rm_X (M : zm_M) (X : List Nat) : Prop := M 35 0 37 = nI X.length ∧ X.length ≤ 10 ∧ (∀ i, i < X.length → M 59 0 i = nI (X.getD i 0)) ∧ ∀ t ∈ X, t < 2 ^ 31
/-- broken or not: nothing can go amiss -/
def ms_w (M : zm_M) (B : List Nat) (br : Bool) : Prop := rm_B M B ∧ (∃ D, rd_M M B D br ∧ ∀ x ∈ D, x < 256) ∧ (∃ X, rm_X M X) ∧ ∃ F, rm_F M F ∧ ∀ t ∈ F.2.1, t < 2 ^ 31
/-- not broken -/
def ms_s (M : zm_M) (B X L T : List Nat) (b : Bool) (D : List Nat) : Prop := rm_B M B ∧ rd_M M B D false ∧ (∀ x ∈ D, x < 256) ∧ rm_X M X ∧ (∀ t ∈ X, sp_wt t) ∧ sp_sl X ≤ 10 ∧ rm_F M (L, T, b) ∧ ∀ t ∈ T, sp_wt t
theorem ms_s.w {M : zm_M} {B X L T : List Nat} {b : Bool} {D : List Nat} (h : ms_s M B X L T b D) : ms_w M B false := ⟨h.1, ⟨D, h.2.1, h.2.2.1⟩, ⟨X, h.2.2.2.1⟩, _, h.2.2.2.2.2.2.1, fun t ht => by have := sp_wt_lt (h.2.2.2.2.2.2.2 t ht); omega⟩
theorem so_byte {M : zm_M} {B D : List Nat} {br : Bool} (hB : rm_B M B) (hl : B.length ≤ 400) (hD : rd_M M B D br) : ∃ M', fn_mo_byteNext [.inr (35, 0)] M = some (nI (D.headD 0), M') ∧ (M' = zm_up M 35 0 41 (M' 35 0 41) ∨ M' = zm_up M 35 0 42 (nI 1)) ∧ rd_M M' B D.tail (br || D.isEmpty) := by
  obtain ⟨q, h1, h2, h3, h4⟩ := hD
  rw [eq_mo_byteNext, h3, hB.1]
  simp only [nz_0, nz_1, nz_2, nz_3, nz_4, nz_5, nz_6, nz_7, nz_8, nz_9, nz_10, nz_11, nz_12, nz_13, nz_14, nz_15, nz_16, nz_17, nz_18, nz_19, nz_20, nz_21, nz_22, nz_23, nz_24, nz_25, nz_26, nz_27, nz_28, nz_29, nz_30, nz_31, nz_32, nz_33, nz_34, nz_35, nz_36, nz_37, nz_38, nz_39, nz_40, nz_41, nz_42, nz_43, nz_44, nz_45, nz_46, nz_47, nz_48, nz_49, nz_50, nz_51, nz_63, nz_64, nz_66, nz_127, nz_128, nz_246, nz_247, nz_248, nz_250, nz_251, nz_252, nz_254, nz_255, nz_256, nz_400, nz_2500, nI_add]
  by_cases e : q < B.length
  · have hd : D = B.getD q 0 :: B.drop (q + 1) := by rw [h1]; exact dr_c e
    rw [if_pos (ni_lt e (by omega) (by omega)), pk_sub (by omega), show q + 1 - 1 = q by omega, nI_clamp (by omega), if_neg (ni_in (show q < 400 by omega) (by omega)), hB.2 q e, hd]
    refine ⟨_, rfl, Or.inl (by rw [zu_e]), q + 1, rfl, by omega, zu_e, ?_⟩
    rw [zu_k (by decide), h4]
    cases br <;> rfl
  · have hd : D = [] := by rw [h1]; exact List.drop_eq_nil_of_le (by omega)
    rw [if_neg (ni_nl (by omega) (by omega) (by omega)), hd]
    refine ⟨_, rfl, Or.inr rfl, q, ?_, h2, by rw [zu_k (by decide)]; exact h3, ?_⟩
    · rw [List.drop_eq_nil_of_le (by omega)]
      rfl
    · rw [zu_e]
      cases br <;> rfl
/-- only the place and the flag -/
def zo_t (M M' : zm_M) : Prop := ∀ s i k, ¬ (s = 35 ∧ (k = 41 ∨ k = 42)) → M' s i k = M s i k
theorem zo_t.rf {M : zm_M} : zo_t M M := fun _ _ _ _ => rfl
theorem zo_t.tr {M M1 M2 : zm_M} (h : zo_t M M1) (h2 : zo_t M1 M2) : zo_t M M2 := fun s i k a => (h2 s i k a).trans (h s i k a)
theorem zo_t.u {M : zm_M} {k : Nat} {x : Int32} (hk : k = 41 ∨ k = 42) : zo_t M (zm_up M 35 0 k x) := by
  intro s i j a
  by_cases e : s = 35
  · rw [zu_k (by omega)]
  · rw [zu_s e]
theorem zo_t.i {M M' : zm_M} (h : zo_t M M') : zo_I M M' := fun s i k a _ _ => h s i k (by omega)
theorem zo_t.B {M M' : zm_M} {B : List Nat} (h : zo_t M M') (hB : rm_B M B) : rm_B M' B := ⟨by rw [h 35 0 7 (by omega)]; exact hB.1, fun i hi => by rw [h 46 0 i (by omega)]; exact hB.2 i hi⟩
theorem zo_t.X {M M' : zm_M} {X : List Nat} (h : zo_t M M') (hX : rm_X M X) : rm_X M' X := ⟨by rw [h 35 0 37 (by omega)]; exact hX.1, hX.2.1, fun i hi => by rw [h 59 0 i (by omega)]; exact hX.2.2.1 i hi, hX.2.2.2⟩
theorem zo_t.F {M M' : zm_M} {F : sp_F} (h : zo_t M M') (hF : rm_F M F) : rm_F M' F := by
  unfold rm_F at hF ⊢
  rw [show M' 47 0 = M 47 0 from funext fun k => h 47 0 k (by omega), show M' 48 0 = M 48 0 from funext fun k => h 48 0 k (by omega), h 35 0 20 (by omega), h 35 0 21 (by omega)]
  exact hF
theorem so_byte' {M : zm_M} {B D : List Nat} {br : Bool} (hB : rm_B M B) (hl : B.length ≤ 400) (hD : rd_M M B D br) : ∃ M', fn_mo_byteNext [.inr (35, 0)] M = some (nI (D.headD 0), M') ∧ zo_t M M' ∧ rd_M M' B D.tail (br || D.isEmpty) := by
  obtain ⟨M', h1, h2, h3⟩ := so_byte hB hl hD
  refine ⟨M', h1, ?_, h3⟩
  rcases h2 with h2 | h2
  · rw [h2]
    exact zo_t.u (by omega)
  · rw [h2]
    exact zo_t.u (by omega)
theorem hd_lt {D : List Nat} (h : ∀ x ∈ D, x < 256) : D.headD 0 < 256 ∧ ∀ x ∈ D.tail, x < 256 := by
  cases D with
  | nil => exact ⟨by decide, fun x hx => by cases hx⟩
  | cons a D => exact ⟨h a List.mem_cons_self, fun x hx => h x (List.mem_cons_of_mem _ hx)⟩
theorem so_two {M : zm_M} {B D : List Nat} {br : Bool} (hB : rm_B M B) (hl : B.length ≤ 400) (hD : rd_M M B D br) (hb : ∀ x ∈ D, x < 256) : ∃ M', fn_mo_twoNext [.inr (35, 0)] M = some (nI (256 * D.headD 0 + D.tail.headD 0), M') ∧ zo_t M M' ∧ rd_M M' B D.tail.tail (br || D.isEmpty || D.tail.isEmpty) := by
  obtain ⟨M1, a1, a2, a3⟩ := so_byte' hB hl hD
  obtain ⟨M2, b1, b2, b3⟩ := so_byte' (a2.B hB) hl a3
  rw [eq_mo_twoNext, a1, Option.bind_some]
  dsimp only
  rw [b1, Option.bind_some]
  simp only [nz_0, nz_1, nz_2, nz_3, nz_4, nz_5, nz_6, nz_7, nz_8, nz_9, nz_10, nz_11, nz_12, nz_13, nz_14, nz_15, nz_16, nz_17, nz_18, nz_19, nz_20, nz_21, nz_22, nz_23, nz_24, nz_25, nz_26, nz_27, nz_28, nz_29, nz_30, nz_31, nz_32, nz_33, nz_34, nz_35, nz_36, nz_37, nz_38, nz_39, nz_40, nz_41, nz_42, nz_43, nz_44, nz_45, nz_46, nz_47, nz_48, nz_49, nz_50, nz_51, nz_63, nz_64, nz_66, nz_127, nz_128, nz_246, nz_247, nz_248, nz_250, nz_251, nz_252, nz_254, nz_255, nz_256, nz_400, nz_2500, pk_mul, nI_add]
  refine ⟨M2, ?_, a2.tr b2, b3⟩
  rw [Nat.mul_comm]
theorem so_type {M : zm_M} {B D : List Nat} {br : Bool} (hB : rm_B M B) (hl : B.length ≤ 400) (hD : rd_M M B D br) (hb : ∀ x ∈ D, x < 256) : ∃ M' t D', fn_mo_typeNext [.inr (35, 0)] M = some (nI t, M') ∧ zo_t M M' ∧ t < 2 ^ 24 ∧ rd_M M' B D' (br || (sp_ty D).isNone) ∧ (∀ x ∈ D', x < 256) ∧ ∀ t0 D0, sp_ty D = some (t0, D0) → t = t0 ∧ D' = D0 := by
  obtain ⟨M1, a1, a2, a3⟩ := so_byte' hB hl hD
  obtain ⟨hh, hb1⟩ := hd_lt hb
  rw [eq_mo_typeNext, a1, Option.bind_some]
  simp only [nz_0, nz_1, nz_2, nz_3, nz_4, nz_5, nz_6, nz_7, nz_8, nz_9, nz_10, nz_11, nz_12, nz_13, nz_14, nz_15, nz_16, nz_17, nz_18, nz_19, nz_20, nz_21, nz_22, nz_23, nz_24, nz_25, nz_26, nz_27, nz_28, nz_29, nz_30, nz_31, nz_32, nz_33, nz_34, nz_35, nz_36, nz_37, nz_38, nz_39, nz_40, nz_41, nz_42, nz_43, nz_44, nz_45, nz_46, nz_47, nz_48, nz_49, nz_50, nz_51, nz_63, nz_64, nz_66, nz_127, nz_128, nz_246, nz_247, nz_248, nz_250, nz_251, nz_252, nz_254, nz_255, nz_256, nz_400, nz_2500, pk_mul, nI_add]
  -- a flag that is set
  have brk : ∀ (N : zm_M) (D1 : List Nat) (b1 : Bool), rd_M N B D1 b1 → rd_M (zm_up N 35 0 42 (nI 1)) B D1 true := by
    intro N D1 b1 h
    obtain ⟨q, h1, h2, h3, h4⟩ := h
    exact ⟨q, h1, h2, by rw [zu_k (by decide)]; exact h3, zu_e⟩
  cases D with
  | nil =>
    have hz : ([] : List Nat).headD 0 = 0 := rfl
    rw [hz, if_neg (show ¬ nI 0 = nI 7 by decide), if_neg (show ¬ nI 0 = nI 8 by decide), if_neg (show ¬ nI 8 < nI 0 by decide), if_neg (show ¬ nI 0 = nI 7 by decide)]
    refine ⟨M1, 16 * 0 + 0, [], rfl, a2, by decide, ?_, fun x hx => (by cases hx), fun t0 D0 h => (by cases h)⟩
    have a3 : rd_M M1 B [] (br || true) := a3
    exact a3
  | cons k D =>
    have hk : k < 256 := hh
    have hkv : (k :: D).headD 0 = k := rfl
    have a3 : rd_M M1 B D (br || false) := a3
    rw [Bool.or_false] at a3
    rw [hkv]
    by_cases e78 : k = 7 ∨ k = 8
    · obtain ⟨M2, b1, b2, b3⟩ := so_two (a2.B hB) hl a3 hb1
      have hb1' : ∀ x ∈ D, x < 256 := hb1
      obtain ⟨hh1, hb2⟩ := hd_lt hb1'
      obtain ⟨hh2, hb3⟩ := hd_lt hb2
      have hnone : D.isEmpty = true ∨ D.tail.isEmpty = true → sp_ty (k :: D) = none := by
        intro h
        match D, h with
        | [], _ => unfold sp_ty; dsimp only; rw [if_neg (by omega), if_neg (by omega)]
        | [x], _ => unfold sp_ty; dsimp only; rw [if_neg (by omega), if_neg (by omega)]
        | x :: y :: D, h => simp at h
      have hsome : D.isEmpty = false → D.tail.isEmpty = false → sp_ty (k :: D) = if k = 7 ∧ 8 ≤ 256 * D.headD 0 + D.tail.headD 0 then none else some (16 * (256 * D.headD 0 + D.tail.headD 0) + k, D.tail.tail) := by
        intro h1 h2
        match D, h1, h2 with
        | x :: y :: D, _, _ => unfold sp_ty; dsimp only; rw [if_neg (by omega), if_neg (by omega)]; rfl
      rcases e78 with e7 | e8
      · subst e7
        rw [if_pos rfl, b1, Option.bind_some]
        simp only [pk_mul, nI_add]
        rw [if_neg (show ¬ nI 8 < nI 7 by decide), if_pos trivial]
        by_cases ev : 7 < 256 * D.headD 0 + D.tail.headD 0
        · rw [if_pos (ni_lt ev (by omega) (by omega))]
          have hn : sp_ty (7 :: D) = none := by
            rcases Bool.eq_false_or_eq_true D.isEmpty with h1 | h1
            · exact hnone (Or.inl h1)
            · rcases Bool.eq_false_or_eq_true D.tail.isEmpty with h2 | h2
              · exact hnone (Or.inr h2)
              · rw [hsome h1 h2, if_pos ⟨rfl, by omega⟩]
          rw [hn]
          refine ⟨_, _, _, rfl, (a2.tr b2).tr (zo_t.u (by omega)), by omega, ?_, hb3, fun t0 D0 h => by cases h⟩
          rw [show (br || (none : Option (Nat × List Nat)).isNone) = true by cases br <;> rfl]
          exact brk M2 _ _ b3
        · rw [if_neg (ni_nl (by omega) (by omega) (by omega))]
          refine ⟨M2, _, _, rfl, a2.tr b2, by omega, ?_, hb3, ?_⟩
          · rcases Bool.eq_false_or_eq_true D.isEmpty with h1 | h1
            · rw [hnone (Or.inl h1)]
              rw [h1] at b3
              rw [show (br || (none : Option (Nat × List Nat)).isNone) = (br || true || D.tail.isEmpty) by cases br <;> rfl]
              exact b3
            · rcases Bool.eq_false_or_eq_true D.tail.isEmpty with h2 | h2
              · rw [hnone (Or.inr h2)]
                rw [h2] at b3
                rw [show (br || (none : Option (Nat × List Nat)).isNone) = (br || D.isEmpty || true) by cases br <;> cases D.isEmpty <;> rfl]
                exact b3
              · rw [hsome h1 h2, if_neg (by omega)]
                rw [h1, h2] at b3
                rw [show (br || (some (16 * (256 * D.headD 0 + D.tail.headD 0) + 7, D.tail.tail)).isNone) = (br || false || false) by cases br <;> rfl]
                exact b3
          · intro t0 D0 h
            rcases Bool.eq_false_or_eq_true D.isEmpty with h1 | h1
            · rw [hnone (Or.inl h1)] at h
              cases h
            · rcases Bool.eq_false_or_eq_true D.tail.isEmpty with h2 | h2
              · rw [hnone (Or.inr h2)] at h
                cases h
              · rw [hsome h1 h2, if_neg (by omega)] at h
                cases h
                exact ⟨rfl, rfl⟩
      · subst e8
        rw [if_neg (show ¬ nI 8 = nI 7 by decide), if_pos rfl, b1, Option.bind_some]
        simp only [pk_mul, nI_add]
        rw [if_neg (show ¬ nI 8 < nI 8 by decide), if_neg (show ¬ nI 8 = nI 7 by decide)]
        refine ⟨M2, _, _, rfl, a2.tr b2, by omega, ?_, hb3, ?_⟩
        · rcases Bool.eq_false_or_eq_true D.isEmpty with h1 | h1
          · rw [hnone (Or.inl h1)]
            rw [h1] at b3
            rw [show (br || (none : Option (Nat × List Nat)).isNone) = (br || true || D.tail.isEmpty) by cases br <;> rfl]
            exact b3
          · rcases Bool.eq_false_or_eq_true D.tail.isEmpty with h2 | h2
            · rw [hnone (Or.inr h2)]
              rw [h2] at b3
              rw [show (br || (none : Option (Nat × List Nat)).isNone) = (br || D.isEmpty || true) by cases br <;> cases D.isEmpty <;> rfl]
              exact b3
            · rw [hsome h1 h2, if_neg (by omega)]
              rw [h1, h2] at b3
              rw [show (br || (some (16 * (256 * D.headD 0 + D.tail.headD 0) + 8, D.tail.tail)).isNone) = (br || false || false) by cases br <;> rfl]
              exact b3
        · intro t0 D0 h
          rcases Bool.eq_false_or_eq_true D.isEmpty with h1 | h1
          · rw [hnone (Or.inl h1)] at h
            cases h
          · rcases Bool.eq_false_or_eq_true D.tail.isEmpty with h2 | h2
            · rw [hnone (Or.inr h2)] at h
              cases h
            · rw [hsome h1 h2, if_neg (by omega)] at h
              cases h
              exact ⟨rfl, rfl⟩
    · rw [if_neg (ni_ne (show k ≠ 7 by omega) (by omega) (by omega)), if_neg (ni_ne (show k ≠ 8 by omega) (by omega) (by omega))]
      by_cases e8 : 8 < k
      · rw [if_pos (ni_lt e8 (by omega) (by omega))]
        have hn : sp_ty (k :: D) = none := by unfold sp_ty; dsimp only; rw [if_pos e8]
        rw [hn]
        refine ⟨_, _, D, rfl, a2.tr (zo_t.u (by omega)), by omega, ?_, hb1, fun t0 D0 h => by cases h⟩
        rw [show (br || (none : Option (Nat × List Nat)).isNone) = true by cases br <;> rfl]
        exact brk M1 D br a3
      · rw [if_neg (ni_nl (by omega) (by omega) (by omega)), if_neg (ni_ne (show k ≠ 7 by omega) (by omega) (by omega))]
        have hs : sp_ty (k :: D) = some (k, D) := by unfold sp_ty; dsimp only; rw [if_neg e8, if_pos (by omega)]
        rw [hs]
        refine ⟨M1, _, D, rfl, a2, by omega, ?_, hb1, ?_⟩
        · rw [show (br || (some (k, D)).isNone) = br by cases br <;> rfl]
          exact a3
        · intro t0 D0 h
          cases h
          exact ⟨by omega, rfl⟩
