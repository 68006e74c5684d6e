/-! type -/
theorem bt_1 (y : Int32) : y &&& nI 1 = bI (y.toBitVec.getLsbD 0) := by
  rw [pk_and y 1 (by decide)]
  show nI (y.toBitVec.toNat % 2 ^ 1) = bI (y.toBitVec.toNat.testBit 0)
  rw [Nat.testBit_zero]
  rcases Nat.mod_two_eq_zero_or_one y.toBitVec.toNat with e | e
  · rw [show y.toBitVec.toNat % 2 ^ 1 = 0 from e, decide_eq_false (by omega)]
    rfl
  · rw [show y.toBitVec.toNat % 2 ^ 1 = 1 from e, decide_eq_true (by omega)]
    rfl
theorem bt_s : ∀ c, c < 8 → ((nI c &&& nI 31).toBitVec.smod 32).toNat = c := by decide
theorem bt_2 (y : Int32) {c : Nat} (hc : c < 8) : (y >>> (nI c &&& nI 31)) &&& nI 1 = bI (y.toBitVec.getLsbD c) := by
  rw [bt_1, Int32.toBitVec_shiftRight, BitVec.sshiftRight', bt_s c hc, BitVec.getLsbD_sshiftRight, if_pos (by omega)]
  rfl
theorem bt_4 : ∀ d, d < 8 → ∀ c, c < 8 → (nI 1 <<< (nI d &&& nI 31)).toBitVec.getLsbD c = decide (c = d) := by decide
theorem bt_5 (y : Int32) {c d : Nat} (hc : c < 8) (hd : d < 8) : ((y ||| (nI 1 <<< (nI d &&& nI 31))) >>> (nI c &&& nI 31)) &&& nI 1 = bI (y.toBitVec.getLsbD c || decide (c = d)) := by
  rw [bt_2 _ hc, Int32.toBitVec_or, BitVec.getLsbD_or, bt_4 d hd c hc]
def sp_su (sup : Nat → Nat) (c a : Nat) : Nat → Nat := fun e => if e = c then a else sup e
theorem su_sup {sup : Nat → Nat} (hs : sp_sup sup) {c a : Nat} (h : a < c) : sp_sup (sp_su sup c a) := by
  intro e h0 h8
  unfold sp_su
  split
  · omega
  · exact hs e h0 h8
theorem su_in {sup : Nat → Nat} (hs : sp_sup sup) {c a : Nat} (h : a < c) (e : Nat) : ∀ (k d : Nat), d ≤ k → d < c → d < 8 → sp_in (sp_su sup c a) 8 e d = sp_in sup 8 e d := by
  intro k
  induction k with
  | zero =>
    intro d h1 h2 h3
    have : d = 0 := by omega
    subst this
    rw [sp_in_z, sp_in_z]
  | succ k ih =>
    intro d h1 h2 h3
    by_cases e0 : d = 0
    · subst e0
      rw [sp_in_z, sp_in_z]
    · have := hs d (by omega) h3
      rw [sp_in_s (su_sup hs h) h3, sp_in_s hs h3]
      have hsu : sp_su sup c a d = sup d := by
        unfold sp_su
        rw [if_neg (by omega)]
      rw [hsu, ih (sup d) (by omega) (by omega) (by omega)]
theorem sc_de_lp {sup : Nat → Nat} (hs : sp_sup sup) {v1 v2 v3 : Int32} : ∀ (k j n : Nat) (M : zm_M), j + k = 8 → 0 < j → k < n → (∀ e, e < 8 → M 2 0 e = nI (sup e)) → (∀ e d, e < 8 → d < j → ((M 4 0 d) >>> (nI e &&& nI 31)) &&& nI 1 = bI (sp_in sup 8 e d)) → ∃ M', rr_fa_describe n 17 [some (.inr (1, 0)), some (.inl v1), some (.inl v2), some (.inl v3), some (.inl (nI j))] [] M = some M' ∧ (∀ s, s ≠ 4 → M' s = M s) ∧ ∀ e d, e < 8 → d < 8 → ((M' 4 0 d) >>> (nI e &&& nI 31)) &&& nI 1 = bI (sp_in sup 8 e d) := by
  intro k
  induction k with
  | zero =>
    intro j n M hk h0 hn h2 h4
    obtain ⟨n, rfl⟩ : ∃ q, n = q + 1 := ⟨n - 1, by omega⟩
    rw [eq_fa_describe_17, nz_8, if_neg (ni_nl (by omega) (by omega) (by omega))]
    exact ⟨M, rfl, fun _ _ => rfl, fun e d he hd => h4 e d he (by omega)⟩
  | succ k ih =>
    intro j n M hk h0 hn h2 h4
    obtain ⟨n, rfl⟩ : ∃ q, n = q + 1 := ⟨n - 1, by omega⟩
    have hsj := hs j h0 (by omega)
    rw [eq_fa_describe_17, nI_clamp (by omega), h2 j (by omega), nI_clamp (by omega)]
    simp only [nz_0, nz_1, nz_2, nz_3, nz_4, nz_5, nz_6, nz_7, nz_8, nz_9, nz_10, nz_11, nz_12, nz_13, nz_14, nz_15, nz_16, nz_17, nz_18, nz_19, nz_20, nz_21, nz_22, nz_23, nz_24, nz_25, nz_26, nz_27, nz_28, nz_29, nz_30, nz_31, nz_32, nz_33, nz_34, nz_35, nz_36, nz_37, nz_38, nz_39, nz_40, nz_41, nz_42, nz_43, nz_44, nz_45, nz_46, nz_47, nz_48, nz_49, nz_50, nz_51, nz_63, nz_64, nz_66, nz_127, nz_128, nz_246, nz_247, nz_248, nz_250, nz_251, nz_252, nz_254, nz_255, nz_256, nz_400, nz_2500, nI_add]
    rw [if_pos (ni_lt (by omega) (by omega) (by omega))]
    simp only [if_neg (ni_in (show j < 8 by omega) (show j < 2 ^ 31 by omega))]
    rw [if_neg (ni_in (show sup j < 8 by omega) (by omega))]
    obtain ⟨M', a1, a2, a3⟩ := ih (j + 1) n (zm_up M 4 0 j (M 4 0 (sup j) ||| (nI 1 <<< (nI j &&& nI 31)))) (by omega) (by omega) (by omega) (by rw [zu_s (by decide)]; exact h2) (by
      intro e d he hd
      by_cases ed : d = j
      · subst ed
        have h5 := h4 e (sup d) he (by omega)
        rw [bt_2 _ he] at h5
        have h6 : (M 4 0 (sup d)).toBitVec.getLsbD e = sp_in sup 8 e (sup d) := by
          revert h5
          cases (M 4 0 (sup d)).toBitVec.getLsbD e <;> cases sp_in sup 8 e (sup d) <;> decide
        rw [zu_e, bt_5 _ he (by omega), h6, sp_in_s hs (c := e) (d := d) (by omega)]
        congr 1
        have hd0 : (d != 0) = true := by
          rw [bne_iff_ne]
          omega
        rw [hd0, Bool.true_and]
        by_cases ee : e = d
        · rw [decide_eq_true ee, beq_iff_eq.mpr ee, Bool.or_true, Bool.true_or]
        · rw [decide_eq_false ee, beq_eq_false_iff_ne.mpr ee, Bool.or_false, Bool.false_or]
      · rw [zu_k ed]
        exact h4 e d he (by omega))
    refine ⟨M', a1, ?_, a3⟩
    intro s hs4
    rw [a2 s hs4, zu_s hs4]
theorem and_1 (f : Bool) : bI f &&& nI 1 = bI f := by cases f <;> decide
theorem cl_type {P : sp_P} {B : List Nat} {M : zm_M} (hi : iv P B M) (x y : Int32) (f : Bool) : cl (fn_mf_type [.inr (0, 0), .inl x, .inl y, .inl (bI f)]) (fn_mo_type [.inr (35, 0), .inl x, .inl y, .inl (bI f)]) M := by
  obtain ⟨hW, hc, hm⟩ := id hi
  obtain ⟨hw, hl, hb⟩ := id hW
  rcases i_cs x with h | ⟨c, hck, rfl⟩
  · refine cl_same hi (v := nI 0) ?_ ?_
    · rw [eq_mf_type]
      simp only [nz_0, nz_1, nz_2, nz_3, nz_4, nz_5, nz_6, nz_7, nz_8, nz_9, nz_10, nz_11, nz_12, nz_13, nz_14, nz_15, nz_16, nz_17, nz_18, nz_19, nz_20, nz_21, nz_22, nz_23, nz_24, nz_25, nz_26, nz_27, nz_28, nz_29, nz_30, nz_31, nz_32, nz_33, nz_34, nz_35, nz_36, nz_37, nz_38, nz_39, nz_40, nz_41, nz_42, nz_43, nz_44, nz_45, nz_46, nz_47, nz_48, nz_49, nz_50, nz_51, nz_63, nz_64, nz_66, nz_127, nz_128, nz_246, nz_247, nz_248, nz_250, nz_251, nz_252, nz_254, nz_255, nz_256, nz_400, nz_2500]
      rw [if_pos (ng_lt h (by decide))]
    · rw [eq_mo_type]
      simp only [nz_0, nz_1, nz_2, nz_3, nz_4, nz_5, nz_6, nz_7, nz_8, nz_9, nz_10, nz_11, nz_12, nz_13, nz_14, nz_15, nz_16, nz_17, nz_18, nz_19, nz_20, nz_21, nz_22, nz_23, nz_24, nz_25, nz_26, nz_27, nz_28, nz_29, nz_30, nz_31, nz_32, nz_33, nz_34, nz_35, nz_36, nz_37, nz_38, nz_39, nz_40, nz_41, nz_42, nz_43, nz_44, nz_45, nz_46, nz_47, nz_48, nz_49, nz_50, nz_51, nz_63, nz_64, nz_66, nz_127, nz_128, nz_246, nz_247, nz_248, nz_250, nz_251, nz_252, nz_254, nz_255, nz_256, nz_400, nz_2500]
      rw [so_inn (ng_lt h (by decide)), Option.bind_some]
      rfl
  by_cases ec : 1 ≤ c ∧ c < 8
  rotate_left
  · refine cl_same hi (v := nI 0) ?_ ?_
    · rw [eq_mf_type]
      simp only [nz_0, nz_1, nz_2, nz_3, nz_4, nz_5, nz_6, nz_7, nz_8, nz_9, nz_10, nz_11, nz_12, nz_13, nz_14, nz_15, nz_16, nz_17, nz_18, nz_19, nz_20, nz_21, nz_22, nz_23, nz_24, nz_25, nz_26, nz_27, nz_28, nz_29, nz_30, nz_31, nz_32, nz_33, nz_34, nz_35, nz_36, nz_37, nz_38, nz_39, nz_40, nz_41, nz_42, nz_43, nz_44, nz_45, nz_46, nz_47, nz_48, nz_49, nz_50, nz_51, nz_63, nz_64, nz_66, nz_127, nz_128, nz_246, nz_247, nz_248, nz_250, nz_251, nz_252, nz_254, nz_255, nz_256, nz_400, nz_2500]
      by_cases e1 : c < 1
      · rw [if_pos (ni_lt e1 hck (by omega))]
      · rw [if_neg (ni_nl (by omega) hck (by omega)), if_neg (ni_nl (by omega) hck (by omega))]
    · rw [eq_mo_type]
      simp only [nz_0, nz_1, nz_2, nz_3, nz_4, nz_5, nz_6, nz_7, nz_8, nz_9, nz_10, nz_11, nz_12, nz_13, nz_14, nz_15, nz_16, nz_17, nz_18, nz_19, nz_20, nz_21, nz_22, nz_23, nz_24, nz_25, nz_26, nz_27, nz_28, nz_29, nz_30, nz_31, nz_32, nz_33, nz_34, nz_35, nz_36, nz_37, nz_38, nz_39, nz_40, nz_41, nz_42, nz_43, nz_44, nz_45, nz_46, nz_47, nz_48, nz_49, nz_50, nz_51, nz_63, nz_64, nz_66, nz_127, nz_128, nz_246, nz_247, nz_248, nz_250, nz_251, nz_252, nz_254, nz_255, nz_256, nz_400, nz_2500]
      rw [so_in hck (by omega) (by omega), Option.bind_some, if_pos (pb0 (by
        rw [Bool.and_eq_false_iff, decide_eq_false_iff_not, decide_eq_false_iff_not]
        omega))]
  have r1 : (decide (1 ≤ c) && decide (c ≤ 7)) = true := by
    rw [decide_eq_true ec.1, decide_eq_true (show c ≤ 7 by omega)]
    rfl
  have bad : (y < nI 0 ∨ ∃ a, a < 2 ^ 31 ∧ y = nI a ∧ ¬ a < c) → cl (fn_mf_type [.inr (0, 0), .inl (nI c), .inl y, .inl (bI f)]) (fn_mo_type [.inr (35, 0), .inl (nI c), .inl y, .inl (bI f)]) M := by
    intro hy
    refine cl_same hi (v := nI 0) ?_ ?_
    · rw [eq_mf_type]
      simp only [nz_0, nz_1, nz_2, nz_3, nz_4, nz_5, nz_6, nz_7, nz_8, nz_9, nz_10, nz_11, nz_12, nz_13, nz_14, nz_15, nz_16, nz_17, nz_18, nz_19, nz_20, nz_21, nz_22, nz_23, nz_24, nz_25, nz_26, nz_27, nz_28, nz_29, nz_30, nz_31, nz_32, nz_33, nz_34, nz_35, nz_36, nz_37, nz_38, nz_39, nz_40, nz_41, nz_42, nz_43, nz_44, nz_45, nz_46, nz_47, nz_48, nz_49, nz_50, nz_51, nz_63, nz_64, nz_66, nz_127, nz_128, nz_246, nz_247, nz_248, nz_250, nz_251, nz_252, nz_254, nz_255, nz_256, nz_400, nz_2500]
      rw [if_neg (ni_nl ec.1 hck (by omega)), if_pos (ni_lt ec.2 hck (by omega))]
      rcases hy with hy | ⟨a, ha, rfl, hac⟩
      · rw [if_pos hy]
      · rw [if_neg (ni_nl (by omega) ha (by omega)), if_neg (ni_nl (by omega) ha hck)]
    · rw [eq_mo_type]
      simp only [nz_0, nz_1, nz_2, nz_3, nz_4, nz_5, nz_6, nz_7, nz_8, nz_9, nz_10, nz_11, nz_12, nz_13, nz_14, nz_15, nz_16, nz_17, nz_18, nz_19, nz_20, nz_21, nz_22, nz_23, nz_24, nz_25, nz_26, nz_27, nz_28, nz_29, nz_30, nz_31, nz_32, nz_33, nz_34, nz_35, nz_36, nz_37, nz_38, nz_39, nz_40, nz_41, nz_42, nz_43, nz_44, nz_45, nz_46, nz_47, nz_48, nz_49, nz_50, nz_51, nz_63, nz_64, nz_66, nz_127, nz_128, nz_246, nz_247, nz_248, nz_250, nz_251, nz_252, nz_254, nz_255, nz_256, nz_400, nz_2500]
      rw [so_in hck (by omega) (by omega), Option.bind_some, if_neg (nb0 r1)]
      rcases hy with hy | ⟨a, ha, rfl, hac⟩
      · rw [so_inn hy, Option.bind_some]
        rfl
      · rw [so_in1b ha (by omega), Option.bind_some, if_pos (pb0 (decide_eq_false hac))]
  rcases i_cs y with h | ⟨a, ha, rfl⟩
  · exact bad (Or.inl h)
  by_cases eac : a < c
  rotate_left
  · exact bad (Or.inr ⟨a, ha, rfl, eac⟩)
  have hs := su_sup hw.1 eac
  obtain ⟨M1, a1, a2, a3⟩ := sc_de_lp hs (v1 := nI c) (v2 := nI a) (v3 := bI f) (8 - c) c (1073741823 + 1) (zm_up (zm_up M 2 0 c (nI a)) 3 0 c (bI f)) (by omega) (by omega) (by omega) (by
    intro e he
    rw [zu_s (by decide)]
    unfold sp_su
    by_cases ee : e = c
    · rw [if_pos ee, ee, zu_e]
    · rw [if_neg ee, zu_k ee]
      exact hc.1.1.1 e he) (by
    intro e d he hd
    rw [zu_s (by decide), zu_s (by decide), su_in hw.1 eac e d d (Nat.le_refl _) hd (by omega)]
    exact hc.1.1.2.2 e d he (by omega))
  have hde : fn_fa_describe [.inr (1, 0), .inl (nI c), .inl (nI a), .inl (bI f)] M = some M1 := by
    rw [eq_fa_describe, show (1073741824 : Nat) = 1073741823 + 1 from rfl, eq_fa_describe_0, nI_clamp hck]
    simp only [nz_0, nz_1, nz_2, nz_3, nz_4, nz_5, nz_6, nz_7, nz_8, nz_9, nz_10, nz_11, nz_12, nz_13, nz_14, nz_15, nz_16, nz_17, nz_18, nz_19, nz_20, nz_21, nz_22, nz_23, nz_24, nz_25, nz_26, nz_27, nz_28, nz_29, nz_30, nz_31, nz_32, nz_33, nz_34, nz_35, nz_36, nz_37, nz_38, nz_39, nz_40, nz_41, nz_42, nz_43, nz_44, nz_45, nz_46, nz_47, nz_48, nz_49, nz_50, nz_51, nz_63, nz_64, nz_66, nz_127, nz_128, nz_246, nz_247, nz_248, nz_250, nz_251, nz_252, nz_254, nz_255, nz_256, nz_400, nz_2500]
    simp only [if_neg (ni_in ec.2 hck)]
    rw [and_1]
    exact a1
  have hcl : fn_mf_type [.inr (0, 0), .inl (nI c), .inl (nI a), .inl (bI f)] M = some (nI 1, zm_up (zm_up M1 18 0 8 (nI 0)) 29 0 9 (nI 0)) := by
    rw [eq_mf_type]
    simp only [nz_0, nz_1, nz_2, nz_3, nz_4, nz_5, nz_6, nz_7, nz_8, nz_9, nz_10, nz_11, nz_12, nz_13, nz_14, nz_15, nz_16, nz_17, nz_18, nz_19, nz_20, nz_21, nz_22, nz_23, nz_24, nz_25, nz_26, nz_27, nz_28, nz_29, nz_30, nz_31, nz_32, nz_33, nz_34, nz_35, nz_36, nz_37, nz_38, nz_39, nz_40, nz_41, nz_42, nz_43, nz_44, nz_45, nz_46, nz_47, nz_48, nz_49, nz_50, nz_51, nz_63, nz_64, nz_66, nz_127, nz_128, nz_246, nz_247, nz_248, nz_250, nz_251, nz_252, nz_254, nz_255, nz_256, nz_400, nz_2500]
    rw [if_neg (ni_nl ec.1 hck (by omega)), if_pos (ni_lt ec.2 hck (by omega)), if_neg (ni_nl (by omega) ha (by omega)), if_pos (ni_lt eac ha hck), hde, Option.bind_some, sc_forget, Option.bind_some]
  have z1 : zo_H M (zm_up (zm_up M1 18 0 8 (nI 0)) 29 0 9 (nI 0)) := by
    intro s hs
    rw [zu_s (by omega), zu_s (by omega), a2 s (by omega), zu_s (by omega), zu_s (by omega)]
  have k1 : ∀ s, 4 < s → M1 s = M s := by
    intro s hs
    rw [a2 s (by omega), zu_s (by omega), zu_s (by omega)]
  have hfc : ∀ e, e < 8 → zm_up M 3 0 c (bI f) 3 0 e = bI (if e = c then f else pg_face P e) := by
    intro e he
    by_cases ee : e = c
    · rw [if_pos ee, ee, zu_e]
    · rw [if_neg ee, zu_k ee]
      exact hc.1.1.2.1 e he
  have hP1 : rc_P (sp_su (pg_sup P) c a, fun e => if e = c then f else pg_face P e, pg_own P, pg_mode P, pg_giv P, pg_arg P, pg_cod P, pg_han P) M1 := by
    obtain ⟨p1, p2, p3, p4, p5, p6, p7, p8, p9, p10, p11⟩ := hc.1
    refine ⟨⟨?_, ?_, a3⟩, ?_, ?_, ?_, ?_, ?_, ?_, ?_, ?_, ?_, ?_⟩
    · intro e he
      rw [a2 2 (by decide), zu_s (by decide)]
      show _ = nI (sp_su (pg_sup P) c a e)
      unfold sp_su
      by_cases ee : e = c
      · rw [if_pos ee, ee, zu_e]
      · rw [if_neg ee, zu_k ee]
        exact p1.1 e he
    · intro e he
      rw [a2 3 (by decide)]
      show _ = bI (if e = c then f else pg_face P e)
      rw [← hfc e he]
      exact congrFun (congrFun (zu_at (zu_s (by decide))) 0) e
    · rw [k1 5 (by decide)]; exact p2
    · rw [k1 5 (by decide)]; exact p3
    · rw [k1 5 (by decide)]; exact p4
    · rw [k1 5 (by decide)]; exact p5
    · rw [k1 6 (by decide)]; exact p6
    · rw [k1 5 (by decide)]; exact p7
    · rw [k1 7 (by decide), k1 8 (by decide), k1 9 (by decide)]; exact p8
    · rw [k1 10 (by decide)]; exact p9
    · rw [k1 5 (by decide)]; exact p10
    · rw [k1 11 (by decide), k1 12 (by decide), k1 13 (by decide), k1 14 (by decide)]; exact p11
  have hC := iv_forget hc hP1 (fun s h1 h2 => k1 s (by omega))
  generalize zm_up (zm_up M1 18 0 8 (nI 0)) 29 0 9 (nI 0) = N at hcl z1 hC
  have hm1 := z1.m hm
  have hmo : fn_mo_type [.inr (35, 0), .inl (nI c), .inl (nI a), .inl (bI f)] N = some (nI 1, zm_up (zm_up N 36 0 c (nI a)) 37 0 c (bI f)) := by
    rw [eq_mo_type]
    simp only [nz_0, nz_1, nz_2, nz_3, nz_4, nz_5, nz_6, nz_7, nz_8, nz_9, nz_10, nz_11, nz_12, nz_13, nz_14, nz_15, nz_16, nz_17, nz_18, nz_19, nz_20, nz_21, nz_22, nz_23, nz_24, nz_25, nz_26, nz_27, nz_28, nz_29, nz_30, nz_31, nz_32, nz_33, nz_34, nz_35, nz_36, nz_37, nz_38, nz_39, nz_40, nz_41, nz_42, nz_43, nz_44, nz_45, nz_46, nz_47, nz_48, nz_49, nz_50, nz_51, nz_63, nz_64, nz_66, nz_127, nz_128, nz_246, nz_247, nz_248, nz_250, nz_251, nz_252, nz_254, nz_255, nz_256, nz_400, nz_2500]
    rw [so_in hck (by omega) (by omega), Option.bind_some, if_neg (nb0 r1), so_in1b ha (by omega), Option.bind_some, if_neg (nb0 (decide_eq_true eac)), nI_clamp hck]
    simp only [if_neg (ni_in ec.2 hck)]
    rw [and_1]
  have k : ∀ s, s ≠ 36 → s ≠ 37 → zm_up (zm_up N 36 0 c (nI a)) 37 0 c (bI f) s = N s := by
    intro s h6 h7
    rw [zu_s h7, zu_s h6]
  obtain ⟨w1, w2, w3, w4, w5, w6, w7, w8, w9, w10⟩ := hw
  obtain ⟨p1, p2, p3, p4, p5, p6, p7, p8, p9⟩ := hm1.1
  refine cl_mk (P' := (sp_su (pg_sup P) c a, fun e => if e = c then f else pg_face P e, pg_own P, pg_mode P, pg_giv P, pg_arg P, pg_cod P, pg_han P)) (B' := B) hcl z1 hmo (fun s hs => k s (by omega) (by omega)) ⟨⟨hs, w2, w3, w4, w5, w6, w7, w8, w9, w10⟩, hl, hb⟩ hC ⟨⟨⟨?_, ?_⟩, ?_, ?_, ?_, ?_, ?_, ?_, ?_, ?_⟩, ?_, ?_⟩
  · intro e he
    rw [zu_s (by decide)]
    show _ = nI (sp_su (pg_sup P) c a e)
    unfold sp_su
    by_cases ee : e = c
    · rw [if_pos ee, ee, zu_e]
    · rw [if_neg ee, zu_k ee]
      exact p1.1 e he
  · intro e he
    show _ = bI (if e = c then f else pg_face P e)
    by_cases ee : e = c
    · rw [if_pos ee, ee, zu_e]
    · rw [if_neg ee, zu_k ee, zu_s (by decide)]
      exact p1.2 e he
  · rw [k 35 (by decide) (by decide)]; exact p2
  · rw [k 35 (by decide) (by decide)]; exact p3
  · rw [k 35 (by decide) (by decide)]; exact p4
  · rw [k 35 (by decide) (by decide)]; exact p5
  · rw [k 38 (by decide) (by decide)]; exact p6
  · rw [k 35 (by decide) (by decide)]; exact p7
  · rw [k 39 (by decide) (by decide), k 40 (by decide) (by decide), k 41 (by decide) (by decide)]; exact p8
  · rw [k 35 (by decide) (by decide), k 42 (by decide) (by decide), k 43 (by decide) (by decide), k 44 (by decide) (by decide), k 45 (by decide) (by decide)]; exact p9
  · rw [k 35 (by decide) (by decide)]; exact hm1.2.1
  · rw [k 46 (by decide) (by decide)]; exact hm1.2.2
