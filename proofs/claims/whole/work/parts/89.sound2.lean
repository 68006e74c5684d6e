def zo_y (r : Nat) (M M' : zm_M) : Prop := ∀ s i k, ¬ (s = 29 ∧ i = 0 ∧ k = 11) → ¬ (22 < s ∧ s < 26 ∧ i = 50 + r) → ¬ ((s = 27 ∨ s = 28) ∧ i = 2) → ¬ ((s = 31 ∨ s = 32) ∧ i = 0 ∧ k = r) → M' s i k = M s i k
theorem zo_y.tr {r : Nat} {M M1 M2 : zm_M} (h : zo_y r M M1) (h2 : zo_y r M1 M2) : zo_y r M M2 := fun s i k a b c d => (h2 s i k a b c d).trans (h s i k a b c d)
theorem zo_x.y {r : Nat} {M M' : zm_M} (h : zo_x (50 + r) M M') : zo_y r M M' := fun s i k a b c _ => h s i k a b c
theorem zo_y.up {r s0 : Nat} {x : Int32} {M : zm_M} (hs : s0 = 31 ∨ s0 = 32) : zo_y r M (zm_up M s0 0 r x) := by
  intro s i k a b c d
  by_cases e : s = s0
  · subst e
    by_cases ei : i = 0
    · rw [zu_k (by omega)]
    · rw [zu_i ei]
  · rw [zu_s e]
theorem zo_y.W {r : Nat} {M M' : zm_M} {B : List Nat} (h : zo_y r M M') (hB : rc_W M 0 B) : rc_W M' 0 B := hB.kept (funext fun k => h 15 0 k (by omega) (by omega) (by omega) (by omega)) (funext fun k => h 16 0 k (by omega) (by omega) (by omega) (by omega))
theorem rd_up {M : zm_M} {B D : List Nat} {s r : Nat} {x : Int32} (hs : s ≠ 29) (h : rd_C M B D) : rd_C (zm_up M s 0 r x) B D := by
  obtain ⟨q, h1, h2, h3⟩ := h
  exact ⟨q, h1, h2, by rw [zu_s (fun e => hs e.symm)]; exact h3⟩
theorem sc_readRow {M : zm_M} {r c : Nat} {B D X : List Nat} (hr : r < 50) (h8 : M 29 0 8 = nI r) (hl : B.length ≤ 400) (hB : rc_W M 0 B) (hD : rd_C M B (c :: D)) (hb : ∀ x ∈ c :: D, x < 256) (hF : ∃ F, rc_F M (50 + r) F) (hX : rc_L M 2 X) : ∃ M', fn_re_readRow [.inr (29, 0), .inr (23, 50 + r)] M = some (bI (sp_ro c X D).isSome, M') ∧ zo_y r M M' ∧ (∃ F, rc_F M' (50 + r) F) ∧ ∀ X' T d D', sp_ro c X D = some (X', T, d, D') → rc_L M' 2 X' ∧ rc_F M' (50 + r) (rw_F X' T) ∧ rd_C M' B D' ∧ (∀ t ∈ T, sp_wt t) ∧ (∀ x ∈ D', x < 256) ∧ M' 31 0 r = nI d ∧ M' 32 0 r = nI c := by
  have hc := hb c (by simp)
  have hb' : ∀ x ∈ D, x < 256 := fun x hx => hb x (List.mem_cons_of_mem _ hx)
  have hnil : ∀ t ∈ ([] : List Nat), sp_wt t := fun t ht => by cases ht
  obtain ⟨F0, hF0⟩ := hF
  obtain ⟨M1, a1, a2, a3⟩ := sc_rbyte hB hl hD
  have a3 : rd_C M1 B D := a3
  have h81 : M1 29 0 8 = nI r := by rw [a2 29 0 8 (by omega)]; exact h8
  have hF1 : rc_F (zm_up M1 32 0 r (nI c)) (50 + r) F0 := (a2.F hF0).kept (by rw [zu_s (by decide)]) (by rw [zu_s (by decide)]) (by rw [zu_s (by decide)])
  obtain ⟨M2, b1, b2, b3⟩ := sc_empty (f := 50 + r) hF1.1
  have hX2 : rc_L M2 2 X := b2.L2 ((a2.L hX).kept (by rw [zu_s (by decide)]) (by rw [zu_s (by decide)]))
  have hB2 : rc_W M2 0 B := b2.W2 ((a2.W hB).kept (by rw [zu_s (by decide)]) (by rw [zu_s (by decide)]))
  have hD2 : rd_C M2 B D := b2.rd (rd_up (by decide) a3)
  have z2 : zo_y r M M2 := (a2.x.y.tr (zo_y.up (by omega))).tr b2.x.y
  have h82 : M2 29 0 8 = nI r := by rw [z2 29 0 8 (by omega) (by omega) (by omega) (by omega)]; exact h8
  have c2 : M2 32 0 r = nI c := by rw [b2 32 0 r (by omega), zu_e]
  rw [eq_re_readRow, show ∀ lo Q, rr_re_readRow 1 0 lo [] Q = rr_re_readRow (0 + 1) 0 lo [] Q from fun _ _ => rfl, eq_re_readRow_0, a1, Option.bind_some]
  dsimp only
  rw [show vz (c :: D).head? = nI c from rfl]
  simp only [nz_0, nz_1, nz_2, nz_3, nz_4, nz_5, nz_6, nz_7, nz_8, nz_9, nz_10, nz_11, nz_12, nz_13, nz_14, nz_15, nz_16, nz_17, nz_18, nz_19, nz_20, nz_21, nz_22, nz_23, nz_24, nz_25, nz_26, nz_27, nz_28, nz_29, nz_30, nz_31, nz_32, nz_33, nz_34, nz_35, nz_36, nz_37, nz_38, nz_39, nz_40, nz_41, nz_42, nz_43, nz_44, nz_45, nz_46, nz_47, nz_48, nz_49, nz_50, nz_51, nz_63, nz_64, nz_66, nz_127, nz_128, nz_246, nz_247, nz_248, nz_250, nz_251, nz_252, nz_254, nz_255, nz_256, nz_400, nz_2500]
  rw [h81, nI_clamp (by omega), if_neg (ni_in hr (by omega)), b1, Option.bind_some]
  unfold sp_ro
  by_cases e1 : c < 128
  · rw [if_pos (ni_lt e1 (by omega) (by omega)), if_neg (show ¬ nI 64 = nI 0 by decide), h82, nI_clamp (by omega), if_neg (ni_in hr (by omega)), if_neg (show ¬ nI 64 = nI 0 by decide), pk_rem (by omega) (by omega) (by omega), pk_div (by omega) (by omega) (by omega)]
    simp only [if_pos e1]
    have hF3 : rc_F (zm_up M2 31 0 r (nI (c % 64))) (50 + r) (F0.1, [], F0.2.2) := b3.kept (by rw [zu_s (by decide)]) (by rw [zu_s (by decide)]) (by rw [zu_s (by decide)])
    obtain ⟨M3, d1, d2, d3, ⟨T0, D0, d4, d5⟩, d6⟩ := sc_rstack (f := 50 + r) (m := c / 64) hl (by omega) (hB2.kept (by rw [zu_s (by decide)]) (by rw [zu_s (by decide)])) (rd_up (by decide) hD2) hb' hF3 hnil (hX2.kept (by rw [zu_s (by decide)]) (by rw [zu_s (by decide)]))
    rw [d1, Option.bind_some]
    have z3 : zo_y r M M3 := (z2.tr (zo_y.up (by omega))).tr d2.y
    have m31 : M3 31 0 r = nI (c % 64) := by rw [d2 31 0 r (by omega) (by omega) (by omega), zu_e]
    have m32 : M3 32 0 r = nI c := by rw [d2 32 0 r (by omega) (by omega) (by omega), zu_s (by decide)]; exact c2
    cases hrt : sp_rt (c / 64) [] D with
    | none =>
      obtain ⟨M4, e1', e2', e3'⟩ := sc_rr_end (v2 := nI c) (s := false) d3 d4
      dsimp only
      rw [show bI (none : Option (List Nat × List Nat)).isSome = bI false from rfl, e1']
      exact ⟨M4, rfl, z3.tr e2'.x.y, ⟨_, e3'⟩, fun X' T d D' h => by cases h⟩
    | some q =>
      obtain ⟨T1, D1⟩ := q
      obtain ⟨k1, k2, k3, k4⟩ := d6 T1 D1 hrt
      obtain ⟨M4, e1', e2', e3'⟩ := sc_rr_end (v2 := nI c) (s := true) d3 k1
      dsimp only
      rw [show bI (some (T1, D1)).isSome = bI true from rfl, e1']
      refine ⟨M4, rfl, z3.tr e2'.x.y, ⟨_, e3'⟩, ?_⟩
      intro X' T d D' h
      cases h
      exact ⟨e2'.L2 d3, e3', e2'.rd k2, k3, k4, by rw [e2' 31 0 r (by omega)]; exact m31, by rw [e2' 32 0 r (by omega)]; exact m32⟩
  · rw [if_neg (ni_nl (by omega) (by omega) (by omega))]
    simp only [if_neg e1]
    by_cases e2 : c < 247
    · rw [if_pos (ni_lt e2 (by omega) (by omega))]
      simp only [if_pos e2]
      obtain ⟨M4, e1', e2', e3'⟩ := sc_rr_end (v2 := nI c) (s := false) hX2 b3
      rw [show nI 0 = bI false from rfl, e1']
      exact ⟨M4, rfl, z2.tr e2'.x.y, ⟨_, e3'⟩, fun X' T d D' h => by cases h⟩
    · rw [if_neg (ni_nl (by omega) (by omega) (by omega))]
      simp only [if_neg e2]
      obtain ⟨M3, d1, d2, d3⟩ := sc_rtwo hB2 hl hD2 hb'
      have h83 : M3 29 0 8 = nI r := by rw [d2 29 0 8 (by omega)]; exact h82
      rw [d1]
      simp only [Option.bind_some]
      rw [h82, h83, nI_clamp (by omega)]
      simp only [if_neg (ni_in hr (show r < 2 ^ 31 by omega))]
      rw [zu_e]
      -- the bytes of the DELTA are missing
      have miss : ∀ (N : zm_M), zo_1 M2 N → ∃ M', rr_re_readRow (0 + 1) 102 [some (.inr (29, 0)), some (.inr (23, 50 + r)), some (.inl (nI c)), none] [] (zm_up N 31 0 r (-nI 1)) = some (bI (none : Option (List Nat × List Nat × Nat × List Nat)).isSome, M') ∧ zo_y r M M' ∧ ∃ F, rc_F M' (50 + r) F := by
        intro N hN
        rw [eq_re_readRow_102, eq_re_readRow_103]
        obtain ⟨M4, e1', e2', e3'⟩ := sc_rr_end (M := zm_up N 31 0 r (-nI 1)) (f := 50 + r) (v2 := nI c) (s := false) ((hN.L hX2).kept (by rw [zu_s (by decide)]) (by rw [zu_s (by decide)])) ((hN.F b3).kept (by rw [zu_s (by decide)]) (by rw [zu_s (by decide)]) (by rw [zu_s (by decide)]))
        simp only [nz_0, nz_1, nz_2, nz_3, nz_4, nz_5, nz_6, nz_7, nz_8, nz_9, nz_10, nz_11, nz_12, nz_13, nz_14, nz_15, nz_16, nz_17, nz_18, nz_19, nz_20, nz_21, nz_22, nz_23, nz_24, nz_25, nz_26, nz_27, nz_28, nz_29, nz_30, nz_31, nz_32, nz_33, nz_34, nz_35, nz_36, nz_37, nz_38, nz_39, nz_40, nz_41, nz_42, nz_43, nz_44, nz_45, nz_46, nz_47, nz_48, nz_49, nz_50, nz_51, nz_63, nz_64, nz_66, nz_127, nz_128, nz_246, nz_247, nz_248, nz_250, nz_251, nz_252, nz_254, nz_255, nz_256, nz_400, nz_2500]
        rw [show nI 0 = bI false from rfl, e1']
        exact ⟨M4, rfl, ((z2.tr hN.x.y).tr (zo_y.up (by omega))).tr e2'.x.y, ⟨_, e3'⟩⟩
      match D, hb', d3 with
      | [], _, d3 =>
        dsimp only
        rw [if_pos (show -nI 1 < nI 0 by decide)]
        obtain ⟨M', k1, k2, k3⟩ := miss M3 d2
        exact ⟨M', k1, k2, k3, fun X' T d D' h => by cases h⟩
      | [x], _, d3 =>
        dsimp only
        rw [if_pos (show -nI 1 < nI 0 by decide)]
        obtain ⟨M', k1, k2, k3⟩ := miss M3 d2
        exact ⟨M', k1, k2, k3, fun X' T d D' h => by cases h⟩
      | h :: l :: D, hb', d3 =>
        have hh := hb' h (by simp)
        have hl2 := hb' l (by simp)
        have hb2 : ∀ x ∈ D, x < 256 := fun x hx => hb' x (by simp [hx])
        have d3 : rd_C M3 B D := d3
        dsimp only
        rw [if_neg (ni_nl (by omega) (by omega) (by omega))]
        have hF3 : rc_F (zm_up M3 31 0 r (nI (256 * h + l))) (50 + r) (F0.1, [], F0.2.2) := (d2.F b3).kept (by rw [zu_s (by decide)]) (by rw [zu_s (by decide)]) (by rw [zu_s (by decide)])
        obtain ⟨M4, f1, f2, ⟨X4, T4, f3, f4⟩, f5⟩ := sc_rrest (f := 50 + r) (c := c) hl (by omega) hc ((d2.W hB2).kept (by rw [zu_s (by decide)]) (by rw [zu_s (by decide)])) (rd_up (by decide) d3) hb2 hF3 ((d2.L hX2).kept (by rw [zu_s (by decide)]) (by rw [zu_s (by decide)]))
        have z4 : zo_y r M M4 := ((z2.tr d2.x.y).tr (zo_y.up (by omega))).tr f2.y
        have m31 : M4 31 0 r = nI (256 * h + l) := by rw [f2 31 0 r (by omega) (by omega) (by omega), zu_e]
        have m32 : M4 32 0 r = nI c := by rw [f2 32 0 r (by omega) (by omega) (by omega), zu_s (by decide), d2.s (by decide)]; exact c2
        rw [f1, Option.bind_some]
        simp only [bI_0]
        cases hrs : sp_rest c X D with
        | none =>
          rw [if_pos (by rfl), eq_re_readRow_102, eq_re_readRow_103]
          obtain ⟨M5, e1', e2', e3'⟩ := sc_rr_end (v2 := nI c) (s := false) f3 f4
          simp only [nz_0, nz_1, nz_2, nz_3, nz_4, nz_5, nz_6, nz_7, nz_8, nz_9, nz_10, nz_11, nz_12, nz_13, nz_14, nz_15, nz_16, nz_17, nz_18, nz_19, nz_20, nz_21, nz_22, nz_23, nz_24, nz_25, nz_26, nz_27, nz_28, nz_29, nz_30, nz_31, nz_32, nz_33, nz_34, nz_35, nz_36, nz_37, nz_38, nz_39, nz_40, nz_41, nz_42, nz_43, nz_44, nz_45, nz_46, nz_47, nz_48, nz_49, nz_50, nz_51, nz_63, nz_64, nz_66, nz_127, nz_128, nz_246, nz_247, nz_248, nz_250, nz_251, nz_252, nz_254, nz_255, nz_256, nz_400, nz_2500]
          rw [show nI 0 = bI false from rfl, e1']
          exact ⟨M5, rfl, z4.tr e2'.x.y, ⟨_, e3'⟩, fun X' T d D' h => by cases h⟩
        | some q =>
          obtain ⟨X5, T5, D5⟩ := q
          obtain ⟨k1, k2, k3, k4, k5⟩ := f5 X5 T5 D5 hrs
          rw [if_neg (by rw [Option.isSome_some]; decide), eq_re_readRow_103]
          obtain ⟨M5, e1', e2', e3'⟩ := sc_rr_end (v2 := nI c) (s := true) k1 k2
          rw [show nI 1 = bI true from rfl, e1']
          refine ⟨M5, rfl, z4.tr e2'.x.y, ⟨_, e3'⟩, ?_⟩
          intro X' T d D' h
          cases h
          exact ⟨e2'.L2 k1, e3', e2'.rd k3, k4, k5, by rw [e2' 31 0 r (by omega)]; exact m31, by rw [e2' 32 0 r (by omega)]; exact m32⟩
