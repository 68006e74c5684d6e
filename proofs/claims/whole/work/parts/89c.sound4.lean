theorem sc_fillb_lp {x : Int32} : ∀ (k i n : Nat) (M : zm_M), i + k = 50 → k < n → (∀ j, j < i → M 33 0 j = x) → ∃ M', rr_ja_fill n 5 [some (.inr (33, 0)), some (.inl x), some (.inl (nI i)), some (.inl (nI 50))] [] M = some M' ∧ zo_a 33 0 M M' ∧ ∀ j, j < 50 → M' 33 0 j = x := by
  intro k
  induction k with
  | zero =>
    intro i n M hi hn hM
    obtain ⟨n, rfl⟩ : ∃ m, n = m + 1 := ⟨n - 1, by omega⟩
    rw [eq_ja_fill_5b, if_neg (ni_nl (by omega) (by omega) (by omega))]
    exact ⟨M, rfl, zo_a.rf, fun j hj => hM j (by omega)⟩
  | succ k ih =>
    intro i n M hi hn hM
    obtain ⟨n, rfl⟩ : ∃ m, n = m + 1 := ⟨n - 1, by omega⟩
    rw [eq_ja_fill_5b, if_pos (ni_lt (by omega) (by omega) (by omega)), nI_clamp (by omega)]
    simp only [nz_0, nz_1, nI_add]
    rw [if_neg (ni_in (show i < 50 by omega) (by omega))]
    obtain ⟨M', h1, h2, h3⟩ := ih (i + 1) n (zm_up M 33 0 i x) (by omega) (by omega) (by
      intro j hj
      by_cases e : j = i
      · subst e
        exact zu_e
      · rw [zu_k e]
        exact hM j (by omega))
    exact ⟨M', h1, zo_a.up.tr h2, h3⟩
theorem sc_fillb {x : Int32} (M : zm_M) : ∃ M', fn_ja_fill [.inr (33, 0), .inl x] M = some M' ∧ zo_a 33 0 M M' ∧ ∀ j, j < 50 → M' 33 0 j = x := by
  rw [eq_ja_fillb, show (1073741824 : Nat) = 1073741823 + 1 from rfl, eq_ja_fill_0b, nz_0]
  exact sc_fillb_lp 50 0 _ M (by omega) (by omega) (fun j hj => by omega)
def re_kn (P : sp_P) (B : List Nat) (M : zm_M) : Prop := M 29 0 9 = nI 1 ∧ M 29 0 10 = bI (sp_rows P B).isSome ∧ ∀ R, sp_rows P B = some R → rc_R P M R
/-- only the READER's things are others -/
def zo_Q (M M' : zm_M) : Prop := ∀ s i k, s ≠ 29 → ¬ (22 < s ∧ s < 26 ∧ ((50 ≤ i ∧ i < 100) ∨ i = 102)) → ¬ ((s = 27 ∨ s = 28) ∧ i = 2) → ¬ (s = 31 ∨ s = 32 ∨ s = 33) → M' s i k = M s i k
theorem zo_Q.rf {M : zm_M} : zo_Q M M := fun _ _ _ _ _ _ _ => rfl
theorem zo_Q.tr {M M1 M2 : zm_M} (h : zo_Q M M1) (h2 : zo_Q M1 M2) : zo_Q M M2 := fun s i k a b c d => (h2 s i k a b c d).trans (h s i k a b c d)
theorem zo_Z.Q {M M' : zm_M} (h : zo_Z M M') : zo_Q M M' := fun s i k a b c d => h s i k (by omega) (by omega) (by omega) (by omega)
theorem zo_Q.u {k : Nat} {x : Int32} {M : zm_M} : zo_Q M (zm_up M 29 0 k x) := fun s i j a _ _ _ => by rw [zu_s a]
theorem zo_Q.P {M M' : zm_M} {P : sp_P} (h : zo_Q M M') (hP : rc_P P M) : rc_P P M' := hP.kept fun s hs => by
  funext i k
  exact h s i k (by omega) (by omega) (by omega) (by omega)
theorem zo_Q.W {M M' : zm_M} {B : List Nat} (h : zo_Q M M') (hB : rc_W M 0 B) : rc_W M' 0 B := hB.kept (funext fun k => h 15 0 k (by omega) (by omega) (by omega) (by omega)) (funext fun k => h 16 0 k (by omega) (by omega) (by omega) (by omega))
theorem sc_isSound {P : sp_P} {M : zm_M} {B : List Nat} (hwP : wf_P P) (hP : rc_P P M) (hB : rc_W M 0 B) (hl : B.length ≤ 400) (hb : ∀ x ∈ B, x < 256) (hf : fr_ok M) (hk : M 29 0 9 = nI 0 ∨ re_kn P B M) : ∃ M', fn_re_isSound [.inr (29, 0)] M = some (bI (sp_rows P B).isSome, M') ∧ zo_Q M M' ∧ fr_ok M' ∧ re_kn P B M' := by
  rw [eq_re_isSound, show (1073741824 : Nat) = 1073741823 + 1 from rfl, eq_re_isSound_0]
  simp only [nz_0, nz_1, nz_2, nz_3, nz_4, nz_5, nz_6, nz_7, nz_8, nz_9, nz_10, nz_11, nz_12, nz_13, nz_14, nz_15, nz_16, nz_17, nz_18, nz_19, nz_20, nz_21, nz_22, nz_23, nz_24, nz_25, nz_26, nz_27, nz_28, nz_29, nz_30, nz_31, nz_32, nz_33, nz_34, nz_35, nz_36, nz_37, nz_38, nz_39, nz_40, nz_41, nz_42, nz_43, nz_44, nz_45, nz_46, nz_47, nz_48, nz_49, nz_50, nz_51, nz_63, nz_64, nz_66, nz_127, nz_128, nz_246, nz_247, nz_248, nz_250, nz_251, nz_252, nz_254, nz_255, nz_256, nz_400, nz_2500]
  rcases hk with hk | hk
  · rw [if_pos hk]
    have z0 : zo_Q M (zm_up (zm_up M 29 0 9 (nI 1)) 29 0 10 (nI 0)) := zo_Q.u.tr zo_Q.u
    obtain ⟨M1, a1, a2, a3⟩ := sc_enter (f := 102) hwP (z0.P hP)
    have hok := fst_ok hwP
    obtain ⟨M2, b1, b2, b3⟩ := sc_gather (f := 2) (g := 102) hok.2.1 hok.2.2.2 hok.1.1 a3.1.2.1
    obtain ⟨M3, c1, c2, c3⟩ := sc_fillb (x := -nI 2) M2
    rw [eq_re_begin, a1, Option.bind_some, b1, Option.bind_some, nz_2, c1, Option.bind_some, Option.bind_some]
    simp only [nz_0, nz_1, nz_2, nz_3, nz_4, nz_5, nz_6, nz_7, nz_8, nz_9, nz_10, nz_11, nz_12, nz_13, nz_14, nz_15, nz_16, nz_17, nz_18, nz_19, nz_20, nz_21, nz_22, nz_23, nz_24, nz_25, nz_26, nz_27, nz_28, nz_29, nz_30, nz_31, nz_32, nz_33, nz_34, nz_35, nz_36, nz_37, nz_38, nz_39, nz_40, nz_41, nz_42, nz_43, nz_44, nz_45, nz_46, nz_47, nz_48, nz_49, nz_50, nz_51, nz_63, nz_64, nz_66, nz_127, nz_128, nz_246, nz_247, nz_248, nz_250, nz_251, nz_252, nz_254, nz_255, nz_256, nz_400, nz_2500]
    have z1 : zo_Q (zm_up (zm_up M 29 0 9 (nI 1)) 29 0 10 (nI 0)) M3 := by
      intro s i k p q r t
      rw [c2 s i k (by omega), b2 s i k (by omega), a2 s i k (by omega)]
    have z2 : zo_Q M (zm_up (zm_up M3 29 0 8 (nI 0)) 29 0 11 (nI 0)) := (z0.tr z1).tr (zo_Q.u.tr zo_Q.u)
    have k3 : ∀ k, M3 29 0 k = zm_up (zm_up M 29 0 9 (nI 1)) 29 0 10 (nI 0) 29 0 k := by
      intro k
      rw [c2.s (by decide), b2.s (by decide) (by decide), a2 29 0 k (by omega)]
    have hfr : ∀ s i, 22 < s → s < 26 → 50 ≤ i → i < 100 → zm_up (zm_up M3 29 0 8 (nI 0)) 29 0 11 (nI 0) s i = M s i := by
      intro s i h1 h2 h3 h4
      rw [zu_s (by omega), zu_s (by omega), c2.s (by omega), b2.s (by omega) (by omega)]
      funext k
      rw [a2 s i k (by omega), zu_s (by omega), zu_s (by omega)]
    have hR0 : rc_R P (zm_up (zm_up M3 29 0 8 (nI 0)) 29 0 11 (nI 0)) [] := by
      refine ⟨by simp, ?_, fun i hi => by simp at hi, ?_⟩
      · rw [zu_k (by decide), zu_e]
        rfl
      · intro p hp
        rw [zu_s (by decide), zu_s (by decide), c3 p hp]
        have : sp_rx P [] p = none := by
          unfold sp_rx
          split <;> rfl
        rw [this]
        decide
    obtain ⟨M4, d1, d2, d3, d4, d5⟩ := sc_so_lp hwP hl 50 0 (1073741823 + 1) (zm_up (zm_up M3 29 0 8 (nI 0)) 29 0 11 (nI 0)) (sp_lst (sp_fst P).1) B 0 [] none (by omega) rfl (by omega) (z2.P hP) (z2.W hB) ⟨0, rfl, Nat.zero_le _, zu_e⟩ hb (by
        refine b3.kept ?_ ?_
        · rw [zu_s (by decide), zu_s (by decide), c2.s (by decide)]
        · rw [zu_s (by decide), zu_s (by decide), c2.s (by decide)]) (by
        intro r hr
        obtain ⟨F, hF⟩ := hf r hr
        exact ⟨F, hF.kept (hfr 23 _ (by omega) (by omega) (by omega) (by omega)) (hfr 24 _ (by omega) (by omega) (by omega) (by omega)) (hfr 25 _ (by omega) (by omega) (by omega) (by omega))⟩) (by
        rw [zu_k (by decide), zu_k (by decide), k3, zu_e]) hR0 (fun q hq => by cases hq) (by omega)
    rw [show -nI 1 = vl 0 from rfl, d1]
    refine ⟨M4, rfl, z2.tr d2.Q, d3, ?_, d4, ?_⟩
    · rw [d2 29 0 9 (by omega) (by omega) (by omega) (by omega), zu_k (by decide), zu_k (by decide), k3, zu_k (by decide), zu_e]
    · intro R hR
      have := d5 R hR
      rw [List.nil_append] at this
      exact this
  · rw [if_neg (by rw [hk.1]; decide), hk.2.1, if_pos (bI_01 _)]
    exact ⟨M, rfl, zo_Q.rf, hf, hk⟩
