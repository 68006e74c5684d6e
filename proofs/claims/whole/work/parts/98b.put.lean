/-! an instruction is written -/
def sp_pu (C : List (Nat × Nat × Nat)) (i : Nat) (q : Nat × Nat × Nat) : List (Nat × Nat × Nat) := if i < C.length then C.set i q else C ++ [q]
theorem pu_len {C : List (Nat × Nat × Nat)} {i : Nat} {q : Nat × Nat × Nat} (hi : i ≤ C.length) : (sp_pu C i q).length = max C.length (i + 1) := by
  unfold sp_pu
  split
  · rw [List.length_set]
    omega
  · rw [List.length_append, List.length_singleton]
    omega
theorem pu_gd {C : List (Nat × Nat × Nat)} {i j : Nat} {q : Nat × Nat × Nat} (hi : i ≤ C.length) : (sp_pu C i q).getD j (0, 0, 0) = if j = i then q else C.getD j (0, 0, 0) := by
  unfold sp_pu
  split
  · next e =>
    rw [List.getD_eq_getElem?_getD, List.getElem?_set]
    by_cases ei : j = i
    · rw [if_pos ei.symm, if_pos ei, if_pos e]
      rfl
    · rw [if_neg (fun q => ei q.symm), if_neg ei, List.getD_eq_getElem?_getD]
  · next e =>
    have : i = C.length := by omega
    subst this
    exact gd_sn
theorem pu_mem {C : List (Nat × Nat × Nat)} {i : Nat} {q : Nat × Nat × Nat} (hC : ∀ x ∈ C, wf_I x) (hq : wf_I q) : ∀ x ∈ sp_pu C i q, wf_I x := by
  unfold sp_pu
  intro x hx
  split at hx
  · rcases List.mem_or_eq_of_mem_set hx with h | h
    · exact hC x h
    · rw [h]
      exact hq
  · rcases List.mem_append.mp hx with h | h
    · exact hC x h
    · rw [List.mem_singleton] at h
      rw [h]
      exact hq
def pg_pu (P : sp_P) (i : Nat) (q : Nat × Nat × Nat) : sp_P := (pg_sup P, pg_face P, pg_own P, pg_mode P, pg_giv P, pg_arg P, sp_pu (pg_cod P) i q, pg_han P)
theorem pp_n {P : sp_P} {i : Nat} {q : Nat × Nat × Nat} (hi : i ≤ pg_n P) : pg_n (pg_pu P i q) = max (pg_n P) (i + 1) := pu_len hi
theorem pp_op {P : sp_P} {i j : Nat} {q : Nat × Nat × Nat} (hi : i ≤ pg_n P) : pg_op (pg_pu P i q) j = if j = i then q.1 else pg_op P j := by
  show ((sp_pu (pg_cod P) i q).getD j (0, 0, 0)).1 = _
  rw [pu_gd hi]
  split <;> rfl
theorem pp_a {P : sp_P} {i j : Nat} {q : Nat × Nat × Nat} (hi : i ≤ pg_n P) : pg_a (pg_pu P i q) j = if j = i then q.2.1 else pg_a P j := by
  show ((sp_pu (pg_cod P) i q).getD j (0, 0, 0)).2.1 = _
  rw [pu_gd hi]
  split <;> rfl
theorem pp_b {P : sp_P} {i j : Nat} {q : Nat × Nat × Nat} (hi : i ≤ pg_n P) : pg_b (pg_pu P i q) j = if j = i then q.2.2 else pg_b P j := by
  show ((sp_pu (pg_cod P) i q).getD j (0, 0, 0)).2.2 = _
  rw [pu_gd hi]
  split <;> rfl
theorem pp_off {P : sp_P} {i : Nat} {q : Nat × Nat × Nat} (hi : i ≤ pg_n P) : ∀ p, p ≤ i → sp_off (pg_pu P i q) p = sp_off P p := by
  intro p
  induction p with
  | zero => intro _; rfl
  | succ p ih =>
    intro hp
    have hn := pp_n (q := q) hi
    rw [sp_off_s (P := pg_pu P i q) (by omega), sp_off_s (P := P) (by omega), ih (by omega), pp_op hi, if_neg (by omega)]
theorem pp_wf {P : sp_P} {i : Nat} {q : Nat × Nat × Nat} (hw : wf_P P) (hi : i ≤ pg_n P) (h50 : i < 50) (hq : wf_I q) : wf_P (pg_pu P i q) := by
  obtain ⟨w1, w2, w3, w4, w5, w6, w7, w8, w9, w10⟩ := hw
  exact ⟨w1, w2, w3, w4, w5, by rw [pp_n hi]; omega, pu_mem w7 hq, w8, w9, w10⟩
theorem sc_wr0 {x0 x1 x2 : Int32} {q : Nat × Nat × Nat} (hq : ins_ok x0 x1 x2 q) {i n : Nat} (hi : i < 50) (M : zm_M) : rr_pr_write (n + 1) 0 [some (.inr (5, 0)), some (.inl (nI i)), some (.inl x0), some (.inl x1), some (.inl x2), none] [] M = rr_pr_write (n + 1) 59 [some (.inr (5, 0)), some (.inl (nI i)), some (.inl x0), some (.inl x1), some (.inl x2), some (.inl (nI i))] [] (zm_up (zm_up (zm_up M 7 0 i (nI q.1)) 8 0 i (nI q.2.1)) 9 0 i (nI q.2.2)) := by
  obtain ⟨hwI, h0, ha, ha0, hb, hb0⟩ := hq
  have h40 : q.1 < 40 := hwI.1
  subst h0
  rw [eq_pr_write_0, nI_clamp (by omega)]
  simp only [nz_0, nz_1, nz_2, nz_3, nz_4, nz_5, nz_6, nz_7, nz_8, nz_9, nz_10, nz_11, nz_12, nz_13, nz_14, nz_15, nz_16, nz_17, nz_18, nz_19, nz_20, nz_21, nz_22, nz_23, nz_24, nz_25, nz_26, nz_27, nz_28, nz_29, nz_30, nz_31, nz_32, nz_33, nz_34, nz_35, nz_36, nz_37, nz_38, nz_39, nz_40, nz_41, nz_42, nz_43, nz_44, nz_45, nz_46, nz_47, nz_48, nz_49, nz_50, nz_51, nz_63, nz_64, nz_66, nz_127, nz_128, nz_246, nz_247, nz_248, nz_250, nz_251, nz_252, nz_254, nz_255, nz_256, nz_400, nz_2500]
  simp only [if_neg (ni_in hi (show i < 2 ^ 31 by omega))]
  rw [sc_hasLocal (by omega)]
  -- what is put behind the second number
  have hB : ∀ N : zm_M, ((fn_mf_isJump [.inl (nI q.1)] N).bind fun q3 => if q3.1 = nI 0 then if nI q.1 = nI 38 then rr_pr_write (n + 1) 59 [some (.inr (5, 0)), some (.inl (nI i)), some (.inl (nI q.1)), some (.inl x1), some (.inl x2), some (.inl (nI i))] [] (zm_up q3.2 9 0 i x2) else rr_pr_write (n + 1) 59 [some (.inr (5, 0)), some (.inl (nI i)), some (.inl (nI q.1)), some (.inl x1), some (.inl x2), some (.inl (nI i))] [] (zm_up q3.2 9 0 i (nI 0)) else rr_pr_write (n + 1) 59 [some (.inr (5, 0)), some (.inl (nI i)), some (.inl (nI q.1)), some (.inl x1), some (.inl x2), some (.inl (nI i))] [] (zm_up q3.2 9 0 i x2)) = rr_pr_write (n + 1) 59 [some (.inr (5, 0)), some (.inl (nI i)), some (.inl (nI q.1)), some (.inl x1), some (.inl x2), some (.inl (nI i))] [] (zm_up N 9 0 i (nI q.2.2)) := by
    intro N
    rw [sc_isJump (by omega), Option.bind_some]
    by_cases e1 : 31 ≤ q.1 ∧ q.1 ≤ 34
    · rw [if_neg (nb0 (by unfold sp_jmp; rw [decide_eq_true e1.1, decide_eq_true e1.2]; rfl)), hb (Or.inl e1)]
    · rw [if_pos (pb0 (by
        unfold sp_jmp
        rw [Bool.and_eq_false_iff, decide_eq_false_iff_not, decide_eq_false_iff_not]
        omega))]
      by_cases e2 : q.1 = 38
      · rw [if_pos (by rw [e2]), hb (Or.inr e2)]
      · rw [if_neg (ni_ne e2 (by omega) (by omega)), hb0 (by
          rintro (p | p)
          · exact e1 p
          · exact e2 p)]
  simp only [hB]
  rw [Option.bind_some]
  by_cases e1 : 21 ≤ q.1 ∧ q.1 ≤ 30
  · rw [if_neg (nb0 (by rw [decide_eq_true e1.1, decide_eq_true e1.2]; rfl)), ha (Or.inl e1)]
  · rw [if_pos (pb0 (by
      rw [Bool.and_eq_false_iff, decide_eq_false_iff_not, decide_eq_false_iff_not]
      omega))]
    by_cases e2 : q.1 < 35
    · rw [if_pos (ni_lt e2 (by omega) (by omega)), ha0 (by
        rintro (p | p)
        · exact e1 p
        · omega)]
    · rw [if_neg (ni_nl (by omega) (by omega) (by omega)), ha (Or.inr (by omega))]
theorem sc_wr_lp {P : sp_P} (h50 : pg_n P ≤ 50) (h40 : ∀ p, p < pg_n P → pg_op P p < 40) {v1 v2 v3 v4 : Int32} : ∀ (k j n : Nat) (M : zm_M), j + k = pg_n P → k < n → M 5 0 9 = nI (pg_n P) → (∀ p, p < pg_n P → M 7 0 p = nI (pg_op P p)) → (∀ p, p ≤ j → M 10 0 p = nI (sp_off P p)) → ∃ M', rr_pr_write n 59 [some (.inr (5, 0)), some (.inl v1), some (.inl v2), some (.inl v3), some (.inl v4), some (.inl (nI j))] [] M = some M' ∧ (∀ s, s ≠ 10 → M' s = M s) ∧ ∀ p, p ≤ pg_n P → M' 10 0 p = nI (sp_off P p) := by
  intro k
  induction k with
  | zero =>
    intro j n M hk hn h9 h7 h10
    obtain ⟨n, rfl⟩ : ∃ q, n = q + 1 := ⟨n - 1, by omega⟩
    rw [eq_pr_write_59, h9, if_neg (ni_nl (by omega) (by omega) (by omega))]
    exact ⟨M, rfl, fun _ _ => rfl, fun p hp => h10 p (by omega)⟩
  | succ k ih =>
    intro j n M hk hn h9 h7 h10
    obtain ⟨n, rfl⟩ : ∃ q, n = q + 1 := ⟨n - 1, by omega⟩
    have := h40 j (by omega)
    rw [eq_pr_write_59, h9, if_pos (ni_lt (by omega) (by omega) (by omega)), nI_clamp (by omega)]
    simp only [nz_0, nz_1, nz_2, nz_3, nz_4, nz_5, nz_6, nz_7, nz_8, nz_9, nz_10, nz_11, nz_12, nz_13, nz_14, nz_15, nz_16, nz_17, nz_18, nz_19, nz_20, nz_21, nz_22, nz_23, nz_24, nz_25, nz_26, nz_27, nz_28, nz_29, nz_30, nz_31, nz_32, nz_33, nz_34, nz_35, nz_36, nz_37, nz_38, nz_39, nz_40, nz_41, nz_42, nz_43, nz_44, nz_45, nz_46, nz_47, nz_48, nz_49, nz_50, nz_51, nz_63, nz_64, nz_66, nz_127, nz_128, nz_246, nz_247, nz_248, nz_250, nz_251, nz_252, nz_254, nz_255, nz_256, nz_400, nz_2500, nI_add]
    rw [if_neg (ni_in (show j < 51 by omega) (by omega)), if_neg (ni_in (show j < 50 by omega) (by omega)), h7 j (by omega), sc_length (by omega), h10 j (Nat.le_refl _), nI_clamp (by omega)]
    simp only [Option.bind_some, nI_add]
    rw [if_neg (ni_in (show j + 1 < 51 by omega) (by omega)), ← sp_off_s (P := P) (k := j) (by omega)]
    obtain ⟨M', a1, a2, a3⟩ := ih (j + 1) n (zm_up M 10 0 (j + 1) (nI (sp_off P (j + 1)))) (by omega) (by omega) (by rw [zu_s (by decide)]; exact h9) (by rw [zu_s (by decide)]; exact h7) (by
      intro p hp
      by_cases e : p = j + 1
      · rw [e, zu_e]
      · rw [zu_k e]
        exact h10 p (by omega))
    refine ⟨M', a1, ?_, a3⟩
    intro s hs
    rw [a2 s hs, zu_s hs]
theorem sc_write {P : sp_P} {M : zm_M} {x0 x1 x2 : Int32} {q : Nat × Nat × Nat} (hw : wf_P P) (hq : ins_ok x0 x1 x2 q) {i : Nat} (hi : i ≤ pg_n P) (h50 : i < 50) (h9 : M 5 0 9 = nI (max (pg_n P) (i + 1))) (hc : ∀ p, p < pg_n P → M 7 0 p = nI (pg_op P p) ∧ M 8 0 p = nI (pg_a P p) ∧ M 9 0 p = nI (pg_b P p)) (ho : ∀ p, p ≤ pg_n P → M 10 0 p = nI (sp_off P p)) : ∃ M', fn_pr_write [.inr (5, 0), .inl (nI i), .inl x0, .inl x1, .inl x2] M = some M' ∧ (∀ s, (s < 7 ∨ 10 < s) → M' s = M s) ∧ (∀ p, p < pg_n (pg_pu P i q) → M' 7 0 p = nI (pg_op (pg_pu P i q) p) ∧ M' 8 0 p = nI (pg_a (pg_pu P i q) p) ∧ M' 9 0 p = nI (pg_b (pg_pu P i q) p)) ∧ ∀ p, p ≤ pg_n (pg_pu P i q) → M' 10 0 p = nI (sp_off (pg_pu P i q) p) := by
  have hw' := pp_wf hw hi h50 hq.1
  have hn := pp_n (q := q) hi
  have hn50 := hw'.n
  have h40 : ∀ p, p < pg_n (pg_pu P i q) → pg_op (pg_pu P i q) p < 40 := fun p hp => (wf_at hw' hp).1
  rw [eq_pr_write, show (1073741824 : Nat) = 1073741823 + 1 from rfl, sc_wr0 hq h50]
  have c7 : ∀ p, p < pg_n (pg_pu P i q) → zm_up (zm_up (zm_up M 7 0 i (nI q.1)) 8 0 i (nI q.2.1)) 9 0 i (nI q.2.2) 7 0 p = nI (pg_op (pg_pu P i q) p) ∧ zm_up (zm_up (zm_up M 7 0 i (nI q.1)) 8 0 i (nI q.2.1)) 9 0 i (nI q.2.2) 8 0 p = nI (pg_a (pg_pu P i q) p) ∧ zm_up (zm_up (zm_up M 7 0 i (nI q.1)) 8 0 i (nI q.2.1)) 9 0 i (nI q.2.2) 9 0 p = nI (pg_b (pg_pu P i q) p) := by
    intro p hp
    rw [pp_op hi, pp_a hi, pp_b hi]
    by_cases e : p = i
    · rw [if_pos e, if_pos e, if_pos e, e, zu_e, zu_s (s' := 8) (by decide), zu_e, zu_s (s' := 7) (by decide), zu_s (s' := 7) (by decide), zu_e]
      exact ⟨rfl, rfl, rfl⟩
    · simp only [if_neg e, zu_k e]
      exact hc p (by omega)
  obtain ⟨M', a1, a2, a3⟩ := sc_wr_lp (P := pg_pu P i q) (v1 := nI i) (v2 := x0) (v3 := x1) (v4 := x2) hn50 h40 (pg_n (pg_pu P i q) - i) i (1073741823 + 1) (zm_up (zm_up (zm_up M 7 0 i (nI q.1)) 8 0 i (nI q.2.1)) 9 0 i (nI q.2.2)) (by omega) (by omega) (by rw [zu_s (by decide), zu_s (by decide), zu_s (by decide), h9, hn]) (fun p hp => (c7 p hp).1) (by
    intro p hp
    rw [zu_s (by decide), zu_s (by decide), zu_s (by decide), pp_off hi p hp]
    exact ho p (by omega))
  refine ⟨M', a1, ?_, ?_, a3⟩
  · intro s hs
    rw [a2 s (by omega), zu_s (by omega), zu_s (by omega), zu_s (by omega)]
  · rw [a2 7 (by decide), a2 8 (by decide), a2 9 (by decide)]
    exact c7
theorem so_set {P : sp_P} {M : zm_M} {x0 x1 x2 : Int32} {q : Nat × Nat × Nat} (hq : ins_ok x0 x1 x2 q) {i : Nat} (hi : i < 50) : fn_mo_set [.inr (35, 0), .inl (nI i), .inl x0, .inl x1, .inl x2] M = some (zm_up (zm_up (zm_up M 39 0 i (nI q.1)) 40 0 i (nI q.2.1)) 41 0 i (nI q.2.2)) := by
  obtain ⟨hwI, h0, ha, ha0, hb, hb0⟩ := hq
  have h40 : q.1 < 40 := hwI.1
  subst h0
  rw [eq_mo_set, nI_clamp (by omega)]
  simp only [nz_0, nz_1, nz_2, nz_3, nz_4, nz_5, nz_6, nz_7, nz_8, nz_9, nz_10, nz_11, nz_12, nz_13, nz_14, nz_15, nz_16, nz_17, nz_18, nz_19, nz_20, nz_21, nz_22, nz_23, nz_24, nz_25, nz_26, nz_27, nz_28, nz_29, nz_30, nz_31, nz_32, nz_33, nz_34, nz_35, nz_36, nz_37, nz_38, nz_39, nz_40, nz_41, nz_42, nz_43, nz_44, nz_45, nz_46, nz_47, nz_48, nz_49, nz_50, nz_51, nz_63, nz_64, nz_66, nz_127, nz_128, nz_246, nz_247, nz_248, nz_250, nz_251, nz_252, nz_254, nz_255, nz_256, nz_400, nz_2500]
  simp only [if_neg (ni_in hi (show i < 2 ^ 31 by omega))]
  rw [so_in (by omega) (by omega) (by omega)]
  have hB : ∀ N : zm_M, ((fn_mo_in [.inl (nI q.1), .inl (nI 31), .inl (nI 34)] N).bind fun q3 => if q3.1 = nI 0 then if nI q.1 = nI 38 then some (zm_up q3.2 41 0 i x2) else some (zm_up q3.2 41 0 i (nI 0)) else some (zm_up q3.2 41 0 i x2)) = some (zm_up N 41 0 i (nI q.2.2)) := by
    intro N
    rw [so_in (by omega) (by omega) (by omega), Option.bind_some]
    by_cases e1 : 31 ≤ q.1 ∧ q.1 ≤ 34
    · rw [if_neg (nb0 (by rw [decide_eq_true e1.1, decide_eq_true e1.2]; rfl)), hb (Or.inl e1)]
    · rw [if_pos (pb0 (by
        rw [Bool.and_eq_false_iff, decide_eq_false_iff_not, decide_eq_false_iff_not]
        omega))]
      by_cases e2 : q.1 = 38
      · rw [if_pos (by rw [e2]), hb (Or.inr e2)]
      · rw [if_neg (ni_ne e2 (by omega) (by omega)), hb0 (by
          rintro (p | p)
          · exact e1 p
          · exact e2 p)]
  simp only [hB]
  rw [Option.bind_some]
  by_cases e1 : 21 ≤ q.1 ∧ q.1 ≤ 30
  · rw [if_neg (nb0 (by rw [decide_eq_true e1.1, decide_eq_true e1.2]; rfl)), ha (Or.inl e1)]
  · rw [if_pos (pb0 (by
      rw [Bool.and_eq_false_iff, decide_eq_false_iff_not, decide_eq_false_iff_not]
      omega))]
    by_cases e2 : 34 < q.1
    · rw [if_pos (ni_lt e2 (by omega) (by omega)), ha (Or.inr (by omega))]
    · rw [if_neg (ni_nl (by omega) (by omega) (by omega)), ha0 (by
        rintro (p | p)
        · exact e1 p
        · omega)]
