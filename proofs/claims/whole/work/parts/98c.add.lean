/-! add, change -/
theorem zu_at {M N : zm_M} {s i k : Nat} {x : Int32} (h : M s = N s) : zm_up M s i k x s = zm_up N s i k x s := by
  funext i' k'
  unfold zm_up
  rw [h]
/-- the METHOD with an instruction written, class -/
theorem rc_put {P : sp_P} {M M' : zm_M} {i : Nat} {q : Nat × Nat × Nat} (hP : rc_P P M) (h9 : M' 5 0 9 = nI (pg_n (pg_pu P i q))) (h5 : ∀ j, j ≠ 9 → M' 5 0 j = M 5 0 j) (hk : ∀ s, s ≠ 5 → (s < 7 ∨ 10 < s) → M' s = M s) (hc : ∀ p, p < pg_n (pg_pu P i q) → M' 7 0 p = nI (pg_op (pg_pu P i q) p) ∧ M' 8 0 p = nI (pg_a (pg_pu P i q) p) ∧ M' 9 0 p = nI (pg_b (pg_pu P i q) p)) (ho : ∀ p, p ≤ pg_n (pg_pu P i q) → M' 10 0 p = nI (sp_off (pg_pu P i q) p)) : rc_P (pg_pu P i q) M' := by
  obtain ⟨p1, p2, p3, p4, p5, p6, p7, p8, p9, p10, p11⟩ := hP
  refine ⟨?_, ?_, ?_, ?_, ?_, ?_, h9, hc, ho, ?_, ?_⟩
  · unfold rc_C
    rw [hk 2 (by decide) (by decide), hk 3 (by decide) (by decide), hk 4 (by decide) (by decide)]
    exact p1
  · rw [h5 0 (by decide)]; exact p2
  · rw [h5 1 (by decide)]; exact p3
  · rw [h5 2 (by decide)]; exact p4
  · rw [h5 4 (by decide)]; exact p5
  · rw [hk 6 (by decide) (by decide)]; exact p6
  · rw [h5 14 (by decide)]; exact p10
  · rw [hk 11 (by decide) (by decide), hk 12 (by decide) (by decide), hk 13 (by decide) (by decide), hk 14 (by decide) (by decide)]; exact p11
theorem rm_put {P : sp_P} {M M' : zm_M} {i : Nat} {q : Nat × Nat × Nat} (hi : i ≤ pg_n P) (hP : rm_P P M) (h5 : M' 35 0 5 = nI (pg_n (pg_pu P i q))) (hk5 : ∀ j, j ≠ 5 → M' 35 0 j = M 35 0 j) (hk : ∀ s, s ≠ 35 → (s < 39 ∨ 41 < s) → M' s = M s) (h39 : M' 39 = zm_up M 39 0 i (nI q.1) 39) (h40 : M' 40 = zm_up M 40 0 i (nI q.2.1) 40) (h41 : M' 41 = zm_up M 41 0 i (nI q.2.2) 41) : rm_P (pg_pu P i q) M' := by
  have hn := pp_n (q := q) hi
  obtain ⟨p1, p2, p3, p4, p5, p6, p7, p8, p9⟩ := hP
  refine ⟨?_, ?_, ?_, ?_, ?_, ?_, h5, ?_, ?_⟩
  · unfold rm_C
    rw [hk 36 (by decide) (by decide), hk 37 (by decide) (by decide)]
    exact p1
  · rw [hk5 2 (by decide)]; exact p2
  · rw [hk5 3 (by decide)]; exact p3
  · rw [hk5 8 (by decide)]; exact p4
  · rw [hk5 4 (by decide)]; exact p5
  · rw [hk 38 (by decide) (by decide)]; exact p6
  · intro p hp
    rw [h39, h40, h41, pp_op hi, pp_a hi, pp_b hi]
    by_cases e : p = i
    · rw [if_pos e, if_pos e, if_pos e, e, zu_e, zu_e, zu_e]
      exact ⟨rfl, rfl, rfl⟩
    · rw [if_neg e, if_neg e, if_neg e, zu_k e, zu_k e, zu_k e]
      exact p8 p (by omega)
  · rw [hk5 6 (by decide), hk 42 (by decide) (by decide), hk 43 (by decide) (by decide), hk 44 (by decide) (by decide), hk 45 (by decide) (by decide)]; exact p9
theorem cl_add {P : sp_P} {B : List Nat} {M : zm_M} (hi : iv P B M) (x0 x1 x2 : Int32) : cl (fn_mf_add [.inr (0, 0), .inl x0, .inl x1, .inl x2]) (fn_mo_add [.inr (35, 0), .inl x0, .inl x1, .inl x2]) M := by
  obtain ⟨hW, hc, hm⟩ := id hi
  obtain ⟨hw, hl, hb⟩ := id hW
  have h50 := hw.n
  have c9 : M 5 0 9 = nI (pg_n P) := hc.1.2.2.2.2.2.2.1
  rcases ins_cs x0 x1 x2 with h | ⟨h, q, hq⟩
  · refine cl_same hi (v := -nI 1) ?_ ?_
    · rw [eq_mf_add, (h M).1, Option.bind_some]
      rfl
    · rw [eq_mo_add, (h M).2, Option.bind_some]
      rfl
  by_cases e : pg_n P = 50
  · refine cl_same hi (v := -nI 3) ?_ ?_
    · rw [eq_mf_add, (h M).1, Option.bind_some]
      simp only [nz_0, nz_1, nz_2, nz_3, nz_4, nz_5, nz_6, nz_7, nz_8, nz_9, nz_10, nz_11, nz_12, nz_13, nz_14, nz_15, nz_16, nz_17, nz_18, nz_19, nz_20, nz_21, nz_22, nz_23, nz_24, nz_25, nz_26, nz_27, nz_28, nz_29, nz_30, nz_31, nz_32, nz_33, nz_34, nz_35, nz_36, nz_37, nz_38, nz_39, nz_40, nz_41, nz_42, nz_43, nz_44, nz_45, nz_46, nz_47, nz_48, nz_49, nz_50, nz_51, nz_63, nz_64, nz_66, nz_127, nz_128, nz_246, nz_247, nz_248, nz_250, nz_251, nz_252, nz_254, nz_255, nz_256, nz_400, nz_2500]
      rw [if_neg (show ¬ nI 1 = nI 0 by decide), c9, if_pos (by rw [e])]
    · rw [eq_mo_add, (h M).2, Option.bind_some]
      simp only [nz_0, nz_1, nz_2, nz_3, nz_4, nz_5, nz_6, nz_7, nz_8, nz_9, nz_10, nz_11, nz_12, nz_13, nz_14, nz_15, nz_16, nz_17, nz_18, nz_19, nz_20, nz_21, nz_22, nz_23, nz_24, nz_25, nz_26, nz_27, nz_28, nz_29, nz_30, nz_31, nz_32, nz_33, nz_34, nz_35, nz_36, nz_37, nz_38, nz_39, nz_40, nz_41, nz_42, nz_43, nz_44, nz_45, nz_46, nz_47, nz_48, nz_49, nz_50, nz_51, nz_63, nz_64, nz_66, nz_127, nz_128, nz_246, nz_247, nz_248, nz_250, nz_251, nz_252, nz_254, nz_255, nz_256, nz_400, nz_2500]
      rw [if_neg (show ¬ nI 1 = nI 0 by decide), hm.1.n, if_pos (by rw [e])]
  have hn := pp_n (P := P) (q := q) (Nat.le_refl (pg_n P))
  have hmx : max (pg_n P) (pg_n P + 1) = pg_n P + 1 := by omega
  rw [hmx] at hn
  obtain ⟨M1, a1, a2, a3, a4⟩ := sc_write (M := zm_up M 5 0 9 (nI (pg_n P + 1))) hw hq (Nat.le_refl (pg_n P)) (by omega) (by rw [zu_e, hmx]) (by
    rw [zu_s (by decide), zu_s (by decide), zu_s (by decide)]
    exact hc.1.i) (by
    rw [zu_s (by decide)]
    exact hc.1.2.2.2.2.2.2.2.2.1)
  have hcl : fn_mf_add [.inr (0, 0), .inl x0, .inl x1, .inl x2] M = some (nI (pg_n P + 1), zm_up (zm_up M1 18 0 8 (nI 0)) 29 0 9 (nI 0)) := by
    rw [eq_mf_add, (h M).1, Option.bind_some]
    simp only [nz_0, nz_1, nz_2, nz_3, nz_4, nz_5, nz_6, nz_7, nz_8, nz_9, nz_10, nz_11, nz_12, nz_13, nz_14, nz_15, nz_16, nz_17, nz_18, nz_19, nz_20, nz_21, nz_22, nz_23, nz_24, nz_25, nz_26, nz_27, nz_28, nz_29, nz_30, nz_31, nz_32, nz_33, nz_34, nz_35, nz_36, nz_37, nz_38, nz_39, nz_40, nz_41, nz_42, nz_43, nz_44, nz_45, nz_46, nz_47, nz_48, nz_49, nz_50, nz_51, nz_63, nz_64, nz_66, nz_127, nz_128, nz_246, nz_247, nz_248, nz_250, nz_251, nz_252, nz_254, nz_255, nz_256, nz_400, nz_2500]
    rw [if_neg (show ¬ nI 1 = nI 0 by decide), c9, if_neg (ni_ne e (by omega) (by omega)), nI_add, pk_sub (by omega), show pg_n P + 1 - 1 = pg_n P by omega, a1, Option.bind_some, sc_forget, Option.bind_some, zu_s (s' := 5) (by decide), zu_s (s' := 5) (by decide), a2 5 (by decide), zu_e]
  have z1 : zo_H M (zm_up (zm_up M1 18 0 8 (nI 0)) 29 0 9 (nI 0)) := by
    intro s hs
    rw [zu_s (by omega), zu_s (by omega), a2 s (by omega), zu_s (by omega)]
  have hP1 : rc_P (pg_pu P (pg_n P) q) M1 := by
    refine rc_put hc.1 ?_ ?_ ?_ a3 a4
    · rw [a2 5 (by decide), zu_e, hn]
    · intro j hj
      rw [a2 5 (by decide), zu_k hj]
    · intro s h5 hs
      rw [a2 s hs, zu_s h5]
  have hC := iv_forget hc hP1 (fun s h1 h2 => by rw [a2 s (by omega), zu_s (by omega)])
  generalize zm_up (zm_up M1 18 0 8 (nI 0)) 29 0 9 (nI 0) = N at hcl z1 hC
  have hm1 := z1.m hm
  have hmo : fn_mo_add [.inr (35, 0), .inl x0, .inl x1, .inl x2] N = some (nI (pg_n P + 1), zm_up (zm_up (zm_up (zm_up N 39 0 (pg_n P) (nI q.1)) 40 0 (pg_n P) (nI q.2.1)) 41 0 (pg_n P) (nI q.2.2)) 35 0 5 (nI (pg_n P + 1))) := by
    rw [eq_mo_add, (h N).2, Option.bind_some]
    simp only [nz_0, nz_1, nz_2, nz_3, nz_4, nz_5, nz_6, nz_7, nz_8, nz_9, nz_10, nz_11, nz_12, nz_13, nz_14, nz_15, nz_16, nz_17, nz_18, nz_19, nz_20, nz_21, nz_22, nz_23, nz_24, nz_25, nz_26, nz_27, nz_28, nz_29, nz_30, nz_31, nz_32, nz_33, nz_34, nz_35, nz_36, nz_37, nz_38, nz_39, nz_40, nz_41, nz_42, nz_43, nz_44, nz_45, nz_46, nz_47, nz_48, nz_49, nz_50, nz_51, nz_63, nz_64, nz_66, nz_127, nz_128, nz_246, nz_247, nz_248, nz_250, nz_251, nz_252, nz_254, nz_255, nz_256, nz_400, nz_2500]
    rw [if_neg (show ¬ nI 1 = nI 0 by decide), hm1.1.n, if_neg (ni_ne e (by omega) (by omega)), so_set (P := P) hq (by omega), Option.bind_some, zu_s (s' := 35) (by decide), zu_s (s' := 35) (by decide), zu_s (s' := 35) (by decide), hm1.1.n, nI_add]
  have k : ∀ s, s ≠ 35 → (s < 39 ∨ 41 < s) → zm_up (zm_up (zm_up (zm_up N 39 0 (pg_n P) (nI q.1)) 40 0 (pg_n P) (nI q.2.1)) 41 0 (pg_n P) (nI q.2.2)) 35 0 5 (nI (pg_n P + 1)) s = N s := by
    intro s h5 hs
    rw [zu_s h5, zu_s (by omega), zu_s (by omega), zu_s (by omega)]
  have k5 : ∀ j, j ≠ 5 → zm_up (zm_up (zm_up (zm_up N 39 0 (pg_n P) (nI q.1)) 40 0 (pg_n P) (nI q.2.1)) 41 0 (pg_n P) (nI q.2.2)) 35 0 5 (nI (pg_n P + 1)) 35 0 j = N 35 0 j := by
    intro j hj
    rw [zu_k hj, zu_s (by decide), zu_s (by decide), zu_s (by decide)]
  refine cl_mk hcl z1 hmo (fun s hs => k s (by omega) (by omega)) ⟨pp_wf hw (Nat.le_refl _) (by omega) hq.1, hl, hb⟩ hC ⟨rm_put (Nat.le_refl _) hm1.1 ?_ k5 k ?_ ?_ ?_, ?_, ?_⟩
  · rw [zu_e, hn]
  · rw [zu_s (by decide), zu_s (by decide), zu_s (by decide)]
  · rw [zu_s (by decide), zu_s (by decide)]
    exact zu_at (zu_s (by decide))
  · rw [zu_s (by decide)]
    exact zu_at (by rw [zu_s (by decide), zu_s (by decide)])
  · rw [k5 7 (by decide)]; exact hm1.2.1
  · rw [k 46 (by decide) (by decide)]; exact hm1.2.2
theorem cl_change {P : sp_P} {B : List Nat} {M : zm_M} (hi : iv P B M) (x x0 x1 x2 : Int32) : cl (fn_mf_change [.inr (0, 0), .inl x, .inl x0, .inl x1, .inl x2]) (fn_mo_change [.inr (35, 0), .inl x, .inl x0, .inl x1, .inl x2]) M := by
  obtain ⟨hW, hc, hm⟩ := id hi
  obtain ⟨hw, hl, hb⟩ := id hW
  have h50 := hw.n
  have c9 : M 5 0 9 = nI (pg_n P) := hc.1.2.2.2.2.2.2.1
  -- no such PLACE
  have bad : (x < nI 0 ∨ ∃ i, i < 2 ^ 31 ∧ x = nI i ∧ ¬ i < pg_n P) → cl (fn_mf_change [.inr (0, 0), .inl x, .inl x0, .inl x1, .inl x2]) (fn_mo_change [.inr (35, 0), .inl x, .inl x0, .inl x1, .inl x2]) M := by
    intro hx
    refine cl_same hi (v := nI 0) ?_ ?_
    · rw [eq_mf_change, c9]
      simp only [nz_0, nz_1, nz_2, nz_3, nz_4, nz_5, nz_6, nz_7, nz_8, nz_9, nz_10, nz_11, nz_12, nz_13, nz_14, nz_15, nz_16, nz_17, nz_18, nz_19, nz_20, nz_21, nz_22, nz_23, nz_24, nz_25, nz_26, nz_27, nz_28, nz_29, nz_30, nz_31, nz_32, nz_33, nz_34, nz_35, nz_36, nz_37, nz_38, nz_39, nz_40, nz_41, nz_42, nz_43, nz_44, nz_45, nz_46, nz_47, nz_48, nz_49, nz_50, nz_51, nz_63, nz_64, nz_66, nz_127, nz_128, nz_246, nz_247, nz_248, nz_250, nz_251, nz_252, nz_254, nz_255, nz_256, nz_400, nz_2500]
      rcases hx with hx | ⟨i, hi31, rfl, hin⟩
      · rw [if_pos hx]
      · rw [if_neg (ni_nl (by omega) hi31 (by omega)), if_neg (ni_nl (by omega) hi31 (by omega))]
    · rw [eq_mo_change]
      simp only [nz_0, nz_1, nz_2, nz_3, nz_4, nz_5, nz_6, nz_7, nz_8, nz_9, nz_10, nz_11, nz_12, nz_13, nz_14, nz_15, nz_16, nz_17, nz_18, nz_19, nz_20, nz_21, nz_22, nz_23, nz_24, nz_25, nz_26, nz_27, nz_28, nz_29, nz_30, nz_31, nz_32, nz_33, nz_34, nz_35, nz_36, nz_37, nz_38, nz_39, nz_40, nz_41, nz_42, nz_43, nz_44, nz_45, nz_46, nz_47, nz_48, nz_49, nz_50, nz_51, nz_63, nz_64, nz_66, nz_127, nz_128, nz_246, nz_247, nz_248, nz_250, nz_251, nz_252, nz_254, nz_255, nz_256, nz_400, nz_2500]
      rcases ins_cs x0 x1 x2 with h | ⟨h, -⟩
      · rw [(h M).2, Option.bind_some]
        rfl
      · rw [(h M).2, Option.bind_some, if_neg (show ¬ nI 1 = nI 0 by decide)]
        rcases hx with hx | ⟨i, hi31, rfl, hin⟩
        · rw [so_inn hx, Option.bind_some]
          rfl
        · rw [show ((nI 1, M) : Int32 × zm_M).2 35 0 5 = nI (pg_n P) from hm.1.n, so_in1b hi31 (by omega), Option.bind_some, if_pos (pb0 (decide_eq_false hin))]
  rcases i_cs x with hx | ⟨i, hi31, rfl⟩
  · exact bad (Or.inl hx)
  by_cases hin : i < pg_n P
  rotate_left
  · exact bad (Or.inr ⟨i, hi31, rfl, hin⟩)
  rcases ins_cs x0 x1 x2 with h | ⟨h, q, hq⟩
  · refine cl_same hi (v := nI 0) ?_ ?_
    · rw [eq_mf_change, c9]
      simp only [nz_0, nz_1, nz_2, nz_3, nz_4, nz_5, nz_6, nz_7, nz_8, nz_9, nz_10, nz_11, nz_12, nz_13, nz_14, nz_15, nz_16, nz_17, nz_18, nz_19, nz_20, nz_21, nz_22, nz_23, nz_24, nz_25, nz_26, nz_27, nz_28, nz_29, nz_30, nz_31, nz_32, nz_33, nz_34, nz_35, nz_36, nz_37, nz_38, nz_39, nz_40, nz_41, nz_42, nz_43, nz_44, nz_45, nz_46, nz_47, nz_48, nz_49, nz_50, nz_51, nz_63, nz_64, nz_66, nz_127, nz_128, nz_246, nz_247, nz_248, nz_250, nz_251, nz_252, nz_254, nz_255, nz_256, nz_400, nz_2500]
      rw [if_neg (ni_nl (by omega) hi31 (by omega)), if_pos (ni_lt hin hi31 (by omega)), (h M).1, Option.bind_some]
      rfl
    · rw [eq_mo_change, (h M).2, Option.bind_some]
      rfl
  have hn := pp_n (P := P) (q := q) (show i ≤ pg_n P by omega)
  have hmx : max (pg_n P) (i + 1) = pg_n P := by omega
  rw [hmx] at hn
  obtain ⟨M1, a1, a2, a3, a4⟩ := sc_write (M := M) hw hq (show i ≤ pg_n P by omega) (by omega) (by rw [c9, hmx]) hc.1.i hc.1.2.2.2.2.2.2.2.2.1
  have hcl : fn_mf_change [.inr (0, 0), .inl (nI i), .inl x0, .inl x1, .inl x2] M = some (nI 1, zm_up (zm_up M1 18 0 8 (nI 0)) 29 0 9 (nI 0)) := by
    rw [eq_mf_change, c9]
    simp only [nz_0, nz_1, nz_2, nz_3, nz_4, nz_5, nz_6, nz_7, nz_8, nz_9, nz_10, nz_11, nz_12, nz_13, nz_14, nz_15, nz_16, nz_17, nz_18, nz_19, nz_20, nz_21, nz_22, nz_23, nz_24, nz_25, nz_26, nz_27, nz_28, nz_29, nz_30, nz_31, nz_32, nz_33, nz_34, nz_35, nz_36, nz_37, nz_38, nz_39, nz_40, nz_41, nz_42, nz_43, nz_44, nz_45, nz_46, nz_47, nz_48, nz_49, nz_50, nz_51, nz_63, nz_64, nz_66, nz_127, nz_128, nz_246, nz_247, nz_248, nz_250, nz_251, nz_252, nz_254, nz_255, nz_256, nz_400, nz_2500]
    rw [if_neg (ni_nl (by omega) hi31 (by omega)), if_pos (ni_lt hin hi31 (by omega)), (h M).1, Option.bind_some, if_neg (show ¬ nI 1 = nI 0 by decide), a1, Option.bind_some, sc_forget, Option.bind_some]
  have z1 : zo_H M (zm_up (zm_up M1 18 0 8 (nI 0)) 29 0 9 (nI 0)) := by
    intro s hs
    rw [zu_s (by omega), zu_s (by omega), a2 s (by omega)]
  have hP1 : rc_P (pg_pu P i q) M1 := by
    refine rc_put hc.1 ?_ ?_ ?_ a3 a4
    · rw [a2 5 (by decide), c9, hn]
    · intro j hj
      rw [a2 5 (by decide)]
    · intro s h5 hs
      rw [a2 s hs]
  have hC := iv_forget hc hP1 (fun s h1 h2 => by rw [a2 s (by omega)])
  generalize zm_up (zm_up M1 18 0 8 (nI 0)) 29 0 9 (nI 0) = N at hcl z1 hC
  have hm1 := z1.m hm
  have hmo : fn_mo_change [.inr (35, 0), .inl (nI i), .inl x0, .inl x1, .inl x2] N = some (nI 1, zm_up (zm_up (zm_up N 39 0 i (nI q.1)) 40 0 i (nI q.2.1)) 41 0 i (nI q.2.2)) := by
    rw [eq_mo_change, (h N).2, Option.bind_some]
    simp only [nz_0, nz_1, nz_2, nz_3, nz_4, nz_5, nz_6, nz_7, nz_8, nz_9, nz_10, nz_11, nz_12, nz_13, nz_14, nz_15, nz_16, nz_17, nz_18, nz_19, nz_20, nz_21, nz_22, nz_23, nz_24, nz_25, nz_26, nz_27, nz_28, nz_29, nz_30, nz_31, nz_32, nz_33, nz_34, nz_35, nz_36, nz_37, nz_38, nz_39, nz_40, nz_41, nz_42, nz_43, nz_44, nz_45, nz_46, nz_47, nz_48, nz_49, nz_50, nz_51, nz_63, nz_64, nz_66, nz_127, nz_128, nz_246, nz_247, nz_248, nz_250, nz_251, nz_252, nz_254, nz_255, nz_256, nz_400, nz_2500]
    rw [if_neg (show ¬ nI 1 = nI 0 by decide), hm1.1.n, so_in1b hi31 (by omega), Option.bind_some, if_neg (nb0 (decide_eq_true hin)), so_set (P := P) hq (by omega), Option.bind_some]
  have k : ∀ s, (s < 39 ∨ 41 < s) → zm_up (zm_up (zm_up N 39 0 i (nI q.1)) 40 0 i (nI q.2.1)) 41 0 i (nI q.2.2) s = N s := by
    intro s hs
    rw [zu_s (by omega), zu_s (by omega), zu_s (by omega)]
  refine cl_mk hcl z1 hmo (fun s hs => k s (by omega)) ⟨pp_wf hw (show i ≤ pg_n P by omega) (by omega) hq.1, hl, hb⟩ hC ⟨rm_put (show i ≤ pg_n P by omega) hm1.1 ?_ (fun j _ => by rw [k 35 (by decide)]) (fun s _ hs => k s hs) ?_ ?_ ?_, ?_, ?_⟩
  · rw [k 35 (by decide), hm1.1.n, hn]
  · rw [zu_s (by decide), zu_s (by decide)]
  · rw [zu_s (by decide)]
    exact zu_at (zu_s (by decide))
  · exact zu_at (by rw [zu_s (by decide), zu_s (by decide)])
  · rw [k 35 (by decide)]; exact hm1.2.1
  · rw [k 46 (by decide)]; exact hm1.2.2
