/-! the class writes all rows -/
def sp_mr (P : sp_P) (B : af_A) : Nat → Nat → List Nat → Nat → List Nat × Nat
  | 0, _, _, _ => ([], 0)
  | k + 1, p, Y, l => if sp_row P p then (match B p with
    | some F => (sp_rb Y (sp_lst F.1) F.2.1 (sp_off P p - l) ++ (sp_mr P B k (p + 1) (sp_lst F.1) (sp_off P p + 1)).1, (sp_mr P B k (p + 1) (sp_lst F.1) (sp_off P p + 1)).2 + 1)
    | none => ([], 0)) else sp_mr P B k (p + 1) Y l
def sp_made (P : sp_P) (B : af_A) : List Nat × Nat := sp_mr P B (pg_n P) 0 (sp_lst (sp_fst P).1) 0
def vl (l : Nat) : Int32 := if l = 0 then -nI 1 else nI (l - 1)
theorem vl_d {o l : Nat} (h : l ≤ o) : nI o - vl l - nI 1 = nI (o - l) := by
  unfold vl
  by_cases e : l = 0
  · rw [if_pos e, Int32.sub_neg, nI_add, pk_sub (by omega), e]
    rfl
  · rw [if_neg e, pk_sub (by omega), pk_sub (by omega), show o - (l - 1) - 1 = o - l by omega]
theorem vl_s (o : Nat) : vl (o + 1) = nI o := by
  unfold vl
  rw [if_neg (by omega)]
  rfl
theorem sp_rb_le (Y X T : List Nat) (d : Nat) : (sp_rb Y X T d).length ≤ 7 + 3 * X.length + 3 * T.length := by
  have h1 := sp_tbs_le X
  have h2 := sp_tbs_le T
  have h3 := sp_tbs_le T.reverse
  have h4 := sp_tbs_le (X.drop Y.length)
  rw [List.length_reverse] at h3
  rw [List.length_drop] at h4
  unfold sp_rb
  split
  · split <;> simp [sp_two_len] <;> omega
  · split
    · rw [List.length_append]
      split <;> simp [sp_two_len] <;> omega
    · split
      · simp [sp_two_len]
        omega
      · simp [sp_two_len]
        omega
def zo_V (M M' : zm_M) : Prop := ∀ s i k, ¬ ((s = 15 ∨ s = 16) ∧ i = 1) → ¬ ((s = 27 ∨ s = 28) ∧ i < 2) → ¬ (22 < s ∧ s < 26 ∧ i = 101) → M' s i k = M s i k
theorem zo_V.rf {M : zm_M} : zo_V M M := fun _ _ _ _ _ _ => rfl
theorem zo_V.tr {M M1 M2 : zm_M} (h : zo_V M M1) (h2 : zo_V M1 M2) : zo_V M M2 := fun s i k a b c => (h2 s i k a b c).trans (h s i k a b c)
theorem zo_W.V {M M' : zm_M} (h : zo_W 1 M M') : zo_V M M' := fun s i k a _ _ => h s i k a
theorem zo_L.V {M M' : zm_M} {f : Nat} (h : zo_L f M M') (hf : f < 2) : zo_V M M' := fun s i k _ b _ => h s i k (by omega)
theorem zo_F.V {M M' : zm_M} (h : zo_F 101 M M') : zo_V M M' := fun s i k _ _ c => h s i k (by omega)
theorem zo_V.P {M M' : zm_M} {P : sp_P} (h : zo_V M M') (hP : rc_P P M) : rc_P P M' := hP.kept fun s hs => by
  funext i k
  exact h s i k (by omega) (by omega) (by omega)
theorem zo_V.F {M M' : zm_M} {p : Nat} {F : sp_F} (h : zo_V M M') (hp : p ≠ 101) (hF : rc_F M p F) : rc_F M' p F := hF.kept (funext fun k => h 23 p k (by omega) (by omega) (by omega)) (funext fun k => h 24 p k (by omega) (by omega) (by omega)) (funext fun k => h 25 p k (by omega) (by omega) (by omega))
theorem zo_V.r {M M' : zm_M} (h : zo_V M M') : M' 20 = M 20 := by
  funext i k
  exact h 20 i k (by omega) (by omega) (by omega)
theorem sc_wrs_lp {P : sp_P} {B : af_A} (hwP : wf_P P) (hB : af_ok P B) (hall : ∀ p, p < pg_n P → (B p).isSome = true) : ∀ (k p n : Nat) (M : zm_M) (W Y : List Nat) (l r : Nat), p + k = pg_n P → k < n → r + k < 2 ^ 30 → rc_P P M → (∀ p F, B p = some F → rc_F M p F) → (∀ p, p < 50 → M 20 0 p = bI (sp_row P p)) → rc_L M 0 Y → rc_W M 1 W → l ≤ sp_off P p → W.length + 61 * k < 2 ^ 20 → ∃ M', rr_wr_writeRows n 36 [some (.inr (26, 0)), some (.inl (nI r)), some (.inl (vl l)), some (.inl (nI p))] [] M = some (nI (r + (sp_mr P B k p Y l).2), M') ∧ zo_V M M' ∧ rc_W M' 1 (W ++ (sp_mr P B k p Y l).1) := by
  have h50 := hwP.n
  intro k
  induction k with
  | zero =>
    intro p n M W Y l r hk hn hr hP hF hR hY hW hl hWl
    obtain ⟨n, rfl⟩ : ∃ m, n = m + 1 := ⟨n - 1, by omega⟩
    rw [eq_wr_writeRows_36, hP.n, if_neg (ni_nl (by omega) (by omega) (by omega))]
    refine ⟨M, rfl, zo_V.rf, ?_⟩
    rw [show (sp_mr P B 0 p Y l).1 = [] from rfl, List.append_nil]
    exact hW
  | succ k ih =>
    intro p n M W Y l r hk hn hr hP hF hR hY hW hl hWl
    obtain ⟨n, rfl⟩ : ∃ m, n = m + 1 := ⟨n - 1, by omega⟩
    have hoff := sp_off_le P p
    have hoffs := sp_off_s (show p < pg_n P by omega)
    have hlen := sp_len_le (pg_op P p)
    rw [eq_wr_writeRows_36, hP.n, if_pos (ni_lt (by omega) (by omega) (by omega)), nI_clamp (by omega)]
    simp only [nz_0, nz_1, nz_2, nz_3, nz_4, nz_5, nz_6, nz_7, nz_8, nz_9, nz_10, nz_11, nz_12, nz_13, nz_14, nz_15, nz_16, nz_17, nz_18, nz_19, nz_20, nz_21, nz_22, nz_23, nz_24, nz_25, nz_26, nz_27, nz_28, nz_29, nz_30, nz_31, nz_32, nz_33, nz_34, nz_35, nz_36, nz_37, nz_38, nz_39, nz_40, nz_41, nz_42, nz_43, nz_44, nz_45, nz_46, nz_47, nz_48, nz_49, nz_50, nz_51, nz_63, nz_64, nz_66, nz_127, nz_128, nz_246, nz_247, nz_248, nz_250, nz_251, nz_252, nz_254, nz_255, nz_256, nz_400, nz_2500, nI_add]
    simp only [if_neg (ni_in (show p < 50 by omega) (show p < 2 ^ 31 by omega)), if_neg (ni_in (show p < 51 by omega) (show p < 2 ^ 31 by omega))]
    rw [hR p (by omega), sp_mr]
    by_cases hrow : sp_row P p = true
    · rw [if_neg (by rw [hrow]; decide), if_pos hrow]
      obtain ⟨F, hBF⟩ := Option.isSome_iff_exists.mp (hall p (by omega))
      have hok := (hB p F hBF).2
      have hFp := hF p F hBF
      obtain ⟨M1, a1, a2, a3⟩ := sc_gather (f := 1) (g := p) hok.1.2.1 hok.1.2.2.2 hok.1.1.1 hFp.1.2.1
      have z1 := a2.V (by omega)
      have hP1 := z1.P hP
      have hF1 := z1.F (by omega) hFp
      have hY1 := hY.zo a2 (by omega)
      have hW1 : rc_W M1 1 W := hW.kept (by rw [a2.s (by decide) (by decide)]) (by rw [a2.s (by decide) (by decide)])
      obtain ⟨M2, b1, b2, b3⟩ := sc_writeRow (d := sp_off P p - l) a3 hY1 hF1 hok.1.1 hW1 (by omega) (by omega)
      have hX2 := b2.L a3
      obtain ⟨M3, c1, c2, c3⟩ := sc_tl_take (f := 0) hX2 (by omega)
      have z3 := (z1.tr b2.V).tr (c2.V (by omega))
      have hP3 := z3.P hP
      have hrb := sp_rb_le Y (sp_lst F.1) F.2.1 (sp_off P p - l)
      have hXl := a3.len
      have hTl : F.2.1.length ≤ 8 := Nat.le_trans (sp_sl_len _) hok.2
      rw [a1, Option.bind_some, hP1.o p (by omega), vl_d hl, b1, Option.bind_some, c1, Option.bind_some, hP3.o p (by omega), ← vl_s (sp_off P p)]
      obtain ⟨M4, d1, d2, d3⟩ := ih (p + 1) n M3 (W ++ sp_rb Y (sp_lst F.1) F.2.1 (sp_off P p - l)) (sp_lst F.1) (sp_off P p + 1) (r + 1) (by omega) (by omega) (by omega) hP3 (by
        intro q G hG
        have hq := (hB q G hG).1
        exact z3.F (by omega) (hF q G hG)) (by
        intro q hq
        rw [z3.r]
        exact hR q hq) c3 (b3.kept (by rw [c2.s (by decide) (by decide)]) (by rw [c2.s (by decide) (by decide)])) (by omega) (by rw [List.length_append]; omega)
      rw [hBF]
      refine ⟨M4, ?_, z3.tr d2, ?_⟩
      · rw [d1]
        dsimp only
        rw [show r + 1 + (sp_mr P B k (p + 1) (sp_lst F.1) (sp_off P p + 1)).2 = r + ((sp_mr P B k (p + 1) (sp_lst F.1) (sp_off P p + 1)).2 + 1) by omega]
      · rw [List.append_assoc] at d3
        exact d3
    · have hrow : sp_row P p = false := by simpa using hrow
      rw [if_pos (by rw [hrow]; decide), if_neg (by rw [hrow]; decide)]
      exact ih (p + 1) n M W Y l r (by omega) (by omega) (by omega) hP hF hR hY hW (by omega) (by omega)
theorem sc_writeRows {P : sp_P} {B : af_A} {M : zm_M} (hwP : wf_P P) (hB : af_ok P B) (hall : ∀ p, p < pg_n P → (B p).isSome = true) (hP : rc_P P M) (hF : ∀ p F, B p = some F → rc_F M p F) (hR : ∀ p, p < 50 → M 20 0 p = bI (sp_row P p)) : ∃ M', fn_wr_writeRows [.inr (26, 0)] M = some (nI (sp_made P B).2, M') ∧ zo_V M M' ∧ rc_W M' 1 (sp_made P B).1 := by
  have h50 := hwP.n
  obtain ⟨M1, a1, a2, a3⟩ := sc_enter (f := 101) hwP hP
  have hok := fst_ok hwP
  obtain ⟨M2, b1, b2, b3⟩ := sc_gather (f := 0) (g := 101) hok.2.1 hok.2.2.2 hok.1.1 a3.1.2.1
  have z3 : zo_V M (zm_up M2 15 1 1 (nI 0)) := (a2.V.tr (b2.V (by omega))).tr (zo_W.up (by omega)).V
  have hW : rc_W (zm_up M2 15 1 1 (nI 0)) 1 [] := ⟨zu_e, fun i hi => by simp at hi⟩
  have hY : rc_L (zm_up M2 15 1 1 (nI 0)) 0 (sp_lst (sp_fst P).1) := b3.kept (by rw [zu_s (by decide)]) (by rw [zu_s (by decide)])
  obtain ⟨M4, d1, d2, d3⟩ := sc_wrs_lp hwP hB hall (pg_n P) 0 (1073741823 + 1) (zm_up M2 15 1 1 (nI 0)) [] (sp_lst (sp_fst P).1) 0 0 (by omega) (by omega) (by omega) (z3.P hP) (by
    intro q G hG
    have hq := (hB q G hG).1
    exact z3.F (by omega) (hF q G hG)) (by
    intro q hq
    rw [z3.r]
    exact hR q hq) hY hW (by omega) (by simp; omega)
  rw [Nat.zero_add] at d1
  rw [eq_wr_writeRows, show (1073741824 : Nat) = 1073741823 + 1 from rfl, eq_wr_writeRows_0, a1, Option.bind_some, b1, Option.bind_some]
  simp only [nz_0, nz_1, nz_2, nz_3, nz_4, nz_5, nz_6, nz_7, nz_8, nz_9, nz_10, nz_11, nz_12, nz_13, nz_14, nz_15, nz_16, nz_17, nz_18, nz_19, nz_20, nz_21, nz_22, nz_23, nz_24, nz_25, nz_26, nz_27, nz_28, nz_29, nz_30, nz_31, nz_32, nz_33, nz_34, nz_35, nz_36, nz_37, nz_38, nz_39, nz_40, nz_41, nz_42, nz_43, nz_44, nz_45, nz_46, nz_47, nz_48, nz_49, nz_50, nz_51, nz_63, nz_64, nz_66, nz_127, nz_128, nz_246, nz_247, nz_248, nz_250, nz_251, nz_252, nz_254, nz_255, nz_256, nz_400, nz_2500]
  rw [show -nI 1 = vl 0 from rfl, d1]
  refine ⟨M4, rfl, z3.tr d2, ?_⟩
  rw [List.nil_append] at d3
  exact d3
