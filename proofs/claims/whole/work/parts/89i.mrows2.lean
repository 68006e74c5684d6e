/-! the reference: readRows -/
theorem rm_R.kept {M M' : zm_M} {R : List sp_W} (h : rm_R M R) (hk : ∀ s, 54 ≤ s → s ≤ 58 → M' s = M s) (h34 : M' 35 0 34 = M 35 0 34) : rm_R M' R := by
  obtain ⟨h1, h2, h3⟩ := h
  refine ⟨h1, by rw [h34]; exact h2, ?_⟩
  intro i hi
  have := h3 i hi
  unfold rm_w at this ⊢
  rw [hk 54 (by decide) (by decide), hk 55 (by decide) (by decide), hk 56 (by decide) (by decide), hk 57 (by decide) (by decide), hk 58 (by decide) (by decide)]
  exact this
theorem zo_I.R {M M' : zm_M} {R : List sp_W} (h : zo_I M M') (hR : rm_R M R) : rm_R M' R := hR.kept (fun s h1 h2 => funext fun i => funext fun k => h s i k (by omega) (by omega) (by omega)) (h 35 0 34 (by omega) (by omega) (by omega))
theorem ms_s.d0 {M : zm_M} {B X L T : List Nat} {b : Bool} {D : List Nat} (h : ms_s M B X L T b D) : ms_s (zm_up M 35 0 20 (nI 0)) B X L [] b D := by
  obtain ⟨h1, h2, h3, h4, h5, h6, h7, h8⟩ := h
  refine ⟨⟨by rw [zu_k (by decide)]; exact h1.1, fun i hi => by rw [zu_s (by decide)]; exact h1.2 i hi⟩, h2.k (zu_k (by decide)) (zu_k (by decide)), h3, ⟨by rw [zu_k (by decide)]; exact h4.1, h4.2.1, fun i hi => by rw [zu_s (by decide)]; exact h4.2.2.1 i hi, h4.2.2.2⟩, h5, h6, ?_, fun t ht => by cases ht⟩
  unfold rm_F at h7 ⊢
  rw [zu_s (by decide), zu_s (by decide), zu_e, zu_k (by decide)]
  exact ⟨⟨h7.1.1, h7.1.2.1, rfl, fun i hi => by simp at hi, h7.1.2.2.2.2⟩, Nat.zero_le _⟩
theorem vl_1 {l : Nat} : vl l + nI 1 = nI l := by
  unfold vl
  by_cases e : l = 0
  · rw [if_pos e, e]
    decide
  · rw [if_neg e, nI_add, show l - 1 + 1 = l by omega]
theorem so_row {P : sp_P} (hwP : wf_P P) {M : zm_M} {B X L T D : List Nat} {b : Bool} {A : List sp_W} {l c n : Nat} {o2 o3 o4 o5 o6 : Option zm_V} (hl : B.length ≤ 400) (hl2 : l ≤ 200) (hP : rm_P P M) (h : ms_s M B X L T b (c :: D)) (hR : rm_R M A) (hn : 40 < n) : (sp_ro c X D = none → ∃ M', rr_mo_readRows n 25 [some (.inr (35, 0)), some (.inl (vl l)), o2, o3, o4, o5, o6] [] M = some (nI 0, M') ∧ zo_J M M') ∧ ∀ X' T' d D', sp_ro c X D = some (X', T', d, D') → (sp_at P (l + d) = none → ∃ M', rr_mo_readRows n 25 [some (.inr (35, 0)), some (.inl (vl l)), o2, o3, o4, o5, o6] [] M = some (nI 0, M') ∧ zo_J M M') ∧ ∀ p, sp_at P (l + d) = some p → A.length ≤ p → ∃ M' n' o2' o3' o4' o5' o6', rr_mo_readRows n 25 [some (.inr (35, 0)), some (.inl (vl l)), o2, o3, o4, o5, o6] [] M = rr_mo_readRows n' 25 [some (.inr (35, 0)), some (.inl (nI (l + d))), o2', o3', o4', o5', o6'] [] M' ∧ n ≤ n' + 40 ∧ zo_J M M' ∧ ms_s M' B X' L T' b D' ∧ rm_R M' (A ++ [(l + d, c, rw_F X' T')]) := by
  have h50 := hwP.n
  obtain ⟨n, rfl⟩ : ∃ q, n = q + 1 := ⟨n - 1, by omega⟩
  obtain ⟨q, hq1, hq2, hq3, hq4⟩ := h.2.1
  have hqB : q < B.length := by
    have := congrArg List.length hq1
    rw [List.length_drop, List.length_cons] at this
    omega
  have hc : c < 256 := h.2.2.1 c List.mem_cons_self
  have h0 := h.d0
  obtain ⟨M1, a1, a2, a3⟩ := so_byte' h0.1 hl h0.2.1
  have a1 : fn_mo_byteNext [.inr (35, 0)] (zm_up M 35 0 20 (nI 0)) = some (nI c, M1) := a1
  have a3 : rd_M M1 B D false := a3
  have s1 : ms_s M1 B X L [] b D := ⟨a2.B h0.1, a3, fun x hx => h.2.2.1 x (List.mem_cons_of_mem _ hx), a2.X h0.2.2.2.1, h0.2.2.2.2.1, h0.2.2.2.2.2.1, a2.F h0.2.2.2.2.2.2.1, h0.2.2.2.2.2.2.2⟩
  have z1 : zo_I M M1 := (zo_I.u (by omega)).tr a2.i
  obtain ⟨M2, d, b1, b2, b3, b4, b5⟩ := sm_form hl hc s1
  have z2 : zo_I M M2 := z1.tr b3
  have hP2 : rm_P P M2 := z2.J.P hP
  have key : rr_mo_readRows (n + 1) 25 [some (.inr (35, 0)), some (.inl (vl l)), o2, o3, o4, o5, o6] [] M = if M2 35 0 42 = nI 0 then (if (vz (sp_at P (l + d))) < nI 0 then some (nI 0, M2) else if nI A.length < nI 0 ∨ 400 ≤ A.length then none else rr_mo_readRows (n + 1) 124 [some (.inr (35, 0)), some (.inl (nI (l + d))), some (.inl (nI c)), some (.inl (nI d)), some (.inl (nI (l + d))), some (.inl (nI 0)), o6] [] (zm_up (zm_up (zm_up M2 54 0 A.length (nI (l + d))) 55 0 A.length (nI c)) 56 0 A.length (M2 35 0 20))) else some (nI 0, M2) := by
    rw [eq_mo_readRows_25, hq3, h.1.1, hq4]
    simp only [nz_0, nz_1, nz_2, nz_3, nz_4, nz_5, nz_6, nz_7, nz_8, nz_9, nz_10, nz_11, nz_12, nz_13, nz_14, nz_15, nz_16, nz_17, nz_18, nz_19, nz_20, nz_21, nz_22, nz_23, nz_24, nz_25, nz_26, nz_27, nz_28, nz_29, nz_30, nz_31, nz_32, nz_33, nz_34, nz_35, nz_36, nz_37, nz_38, nz_39, nz_40, nz_41, nz_42, nz_43, nz_44, nz_45, nz_46, nz_47, nz_48, nz_49, nz_50, nz_51, nz_63, nz_64, nz_66, nz_127, nz_128, nz_246, nz_247, nz_248, nz_250, nz_251, nz_252, nz_254, nz_255, nz_256, nz_400, nz_2500, vl_1]
    rw [if_pos (ni_lt hqB (by omega) (by omega)), if_pos (show bI false = nI 0 from rfl), a1, Option.bind_some, b1, Option.bind_some]
    simp only [nI_add]
    rw [so_placeAt hwP hP2 (show l + d < 2 ^ 31 by omega)]
    simp only [Option.bind_some]
    rw [(z2.R hR).2.1, nI_clamp (by have := hR.1; omega)]
    by_cases e : nI A.length < nI 0 ∨ 400 ≤ A.length
    · simp only [if_pos e]
    · simp only [if_neg e]
  refine ⟨?_, ?_⟩
  · intro hro
    have w := b4 hro
    rw [key, w.f, if_neg (by decide)]
    exact ⟨M2, rfl, z2.J⟩
  · intro X' T' d' D' hro
    obtain ⟨e1, s2⟩ := b5 X' T' d' D' hro
    subst e1
    rw [key, s2.f, if_pos rfl]
    refine ⟨?_, ?_⟩
    · intro hat
      rw [hat, if_pos (show vz none < nI 0 by decide)]
      exact ⟨M2, rfl, z2.J⟩
    · intro p hat hAp
      have hp := (sp_at_some hat).1
      rw [hat, show vz (some p) = nI p from rfl, if_neg (ni_nl (by omega) (by omega) (by omega)), if_neg (ni_in (by omega) (by omega)), show M2 35 0 20 = nI T'.length from s2.2.2.2.2.2.2.1.1.2.2.1]
      have hT : T'.length ≤ 8 := rm_len s2.2.2.2.2.2.2.1
      have hX := s2.2.2.2.1.2.1
      obtain ⟨M3, p2, p3, p4, p5, p6, c1, c2, c3, c4⟩ := so_store (off := l + d) (c := c) (n := n + 1) (v3 := nI d) (o6 := o6) (show A.length < 50 by omega) s2 (z2.R hR) (by omega)
      exact ⟨M3, _, p2, p3, p4, p5, p6, c1, by omega, z2.J.tr c2, c3, c4⟩
theorem sp_rs_nil (P : sp_P) (k : Nat) (X : List Nat) (l : Nat) : sp_rs P k X l [] = some [] := by
  cases k <;> rfl
theorem sp_rs_0 (P : sp_P) (c : Nat) (X D : List Nat) (l : Nat) : sp_rs P 0 X l (c :: D) = none := rfl
theorem sp_off_200 {P : sp_P} (hwP : wf_P P) {p : Nat} (hp : p < pg_n P) : sp_off P p < 200 := by
  have h50 := hwP.n
  have : ∀ q, q ≤ pg_n P → sp_off P q ≤ 3 * q := by
    intro q
    induction q with
    | zero => intro _; exact Nat.le_of_eq rfl
    | succ q ih =>
      intro hq
      have h1 := sp_off_s (P := P) (k := q) (by omega)
      have h2 := sp_len_le (pg_op P q)
      have := ih (by omega)
      omega
  have := this p (by omega)
  omega
theorem so_rr_lp {P : sp_P} (hwP : wf_P P) {B : List Nat} (hl : B.length ≤ 400) : ∀ (k n : Nat) (M : zm_M) (X L T D : List Nat) (b : Bool) (l : Nat) (A : List sp_W) (o2 o3 o4 o5 o6 : Option zm_V), A.length + k = 50 → 40 * k + 41 ≤ n → rm_P P M → ms_s M B X L T b D → rm_R M A → l ≤ 200 → (∀ p, p < pg_n P → l ≤ sp_off P p → A.length ≤ p) → ∃ M', rr_mo_readRows n 25 [some (.inr (35, 0)), some (.inl (vl l)), o2, o3, o4, o5, o6] [] M = some (bI (sp_rs P k X l D).isSome, M') ∧ zo_J M M' ∧ ∀ rs, sp_rs P k X l D = some rs → rm_R M' (A ++ rs) := by
  have h50 := hwP.n
  intro k
  induction k with
  | zero =>
    intro n M X L T D b l A o2 o3 o4 o5 o6 hk hn hP h hR hl2 hA
    match D, h with
    | [], h =>
      obtain ⟨n, rfl⟩ : ∃ q, n = q + 1 := ⟨n - 1, by omega⟩
      obtain ⟨q, hq1, hq2, hq3, hq4⟩ := h.2.1
      have hqB : q = B.length := by
        have := congrArg List.length hq1
        rw [List.length_drop, List.length_nil] at this
        omega
      rw [eq_mo_readRows_25, hq3, h.1.1, hq4, if_neg (ni_nl (by omega) (by omega) (by omega)), nz_0, nz_1, if_pos (show bI false = nI 0 from rfl), sp_rs_nil]
      refine ⟨M, rfl, zo_J.rf, ?_⟩
      intro rs q
      cases q
      rw [List.append_nil]
      exact hR
    | c :: D, h =>
      rw [sp_rs_0]
      obtain ⟨r1, r2⟩ := so_row hwP (n := n) (o2 := o2) (o3 := o3) (o4 := o4) (o5 := o5) (o6 := o6) hl hl2 hP h hR (by omega)
      cases hro : sp_ro c X D with
      | none =>
        obtain ⟨M', a1, a2⟩ := r1 hro
        exact ⟨M', a1, a2, fun rs q => by cases q⟩
      | some q =>
        obtain ⟨X', T', d, D'⟩ := q
        obtain ⟨r3, r4⟩ := r2 X' T' d D' hro
        cases hat : sp_at P (l + d) with
        | none =>
          obtain ⟨M', a1, a2⟩ := r3 hat
          exact ⟨M', a1, a2, fun rs q => by cases q⟩
        | some p =>
          obtain ⟨q1, q2⟩ := sp_at_some hat
          have := hA p q1 (by omega)
          omega
  | succ k ih =>
    intro n M X L T D b l A o2 o3 o4 o5 o6 hk hn hP h hR hl2 hA
    match D, h with
    | [], h =>
      obtain ⟨n, rfl⟩ : ∃ q, n = q + 1 := ⟨n - 1, by omega⟩
      obtain ⟨q, hq1, hq2, hq3, hq4⟩ := h.2.1
      have hqB : q = B.length := by
        have := congrArg List.length hq1
        rw [List.length_drop, List.length_nil] at this
        omega
      rw [eq_mo_readRows_25, hq3, h.1.1, hq4, if_neg (ni_nl (by omega) (by omega) (by omega)), nz_0, nz_1, if_pos (show bI false = nI 0 from rfl), sp_rs_nil]
      refine ⟨M, rfl, zo_J.rf, ?_⟩
      intro rs q
      cases q
      rw [List.append_nil]
      exact hR
    | c :: D, h =>
      have hrs : sp_rs P (k + 1) X l (c :: D) = (sp_ro c X D).bind fun q => if (sp_at P (l + q.2.2.1)).isSome then (sp_rs P k q.1 (l + q.2.2.1 + 1) q.2.2.2).map fun rs => (l + q.2.2.1, c, rw_F q.1 q.2.1) :: rs else none := rfl
      rw [hrs]
      obtain ⟨r1, r2⟩ := so_row hwP (n := n) (o2 := o2) (o3 := o3) (o4 := o4) (o5 := o5) (o6 := o6) hl hl2 hP h hR (by omega)
      cases hro : sp_ro c X D with
      | none =>
        obtain ⟨M', a1, a2⟩ := r1 hro
        exact ⟨M', a1, a2, fun rs q => by cases q⟩
      | some q =>
        obtain ⟨X', T', d, D'⟩ := q
        obtain ⟨r3, r4⟩ := r2 X' T' d D' hro
        rw [Option.bind_some]
        dsimp only
        cases hat : sp_at P (l + d) with
        | none =>
          obtain ⟨M', a1, a2⟩ := r3 hat
          rw [if_neg (by decide)]
          exact ⟨M', a1, a2, fun rs q => by cases q⟩
        | some p =>
          obtain ⟨q1, q2⟩ := sp_at_some hat
          obtain ⟨M1, n', p2, p3, p4, p5, p6, a1, a2, a3, a4, a5⟩ := r4 p hat (hA p q1 (by omega))
          have hoff := sp_off_200 hwP q1
          have hAp := hA p q1 (by omega)
          obtain ⟨M2, b1, b2, b3⟩ := ih n' M1 X' L T' D' b (l + d + 1) (A ++ [(l + d, c, rw_F X' T')]) p2 p3 p4 p5 p6 (by simp; omega) (by omega) (a3.P hP) a4 a5 (by omega) (by
            intro p' hp' hp2
            rw [List.length_append, List.length_singleton]
            have : p < p' := by
              rcases Nat.lt_trichotomy p p' with e | e | e
              · exact e
              · subst e
                omega
              · have := sp_off_m (P := P) e (by omega)
                omega
            omega)
          have hvl : vl (l + d + 1) = nI (l + d) := by
            unfold vl
            rw [if_neg (by omega)]
            rfl
          rw [hvl] at b1
          rw [if_pos (by rfl), a1, b1]
          refine ⟨M2, ?_, a3.tr b2, ?_⟩
          · rw [Option.isSome_map]
          · intro rs q
            rw [Option.map_eq_some_iff] at q
            obtain ⟨rs', q3, q4⟩ := q
            subst q4
            have := b3 rs' q3
            rw [List.append_assoc] at this
            exact this
theorem lst_sl {L : List Nat} (hl : L.length = 10) (h9 : sp_wd (L.getD 9 0) = 1) (hw : ∀ t ∈ L, sp_wt t) : sp_sl (sp_lst L) ≤ 10 := by
  obtain ⟨M', -, -, h⟩ := sc_gather (M := fun _ _ k => nI (L.getD k 0)) (f := 0) (g := 0) hl h9 hw (fun j _ => rfl)
  exact h.2.2.1
theorem sm_readRows {P : sp_P} {M : zm_M} {B : List Nat} (hwP : wf_P P) (hP : rm_P P M) (hB : rm_B M B) (hl : B.length ≤ 400) (hb : ∀ x ∈ B, x < 256) : ∃ M', fn_mo_readRows [.inr (35, 0)] M = some (bI (sp_rows P B).isSome, M') ∧ zo_J M M' ∧ ∀ R, sp_rows P B = some R → rm_R M' R := by
  have hok := fst_ok hwP
  rw [eq_mo_readRows, show (1073741824 : Nat) = 1073741823 + 1 from rfl, eq_mo_readRows_0]
  simp only [nz_0, nz_1, nz_2, nz_3, nz_4, nz_5, nz_6, nz_7, nz_8, nz_9, nz_10, nz_11, nz_12, nz_13, nz_14, nz_15, nz_16, nz_17, nz_18, nz_19, nz_20, nz_21, nz_22, nz_23, nz_24, nz_25, nz_26, nz_27, nz_28, nz_29, nz_30, nz_31, nz_32, nz_33, nz_34, nz_35, nz_36, nz_37, nz_38, nz_39, nz_40, nz_41, nz_42, nz_43, nz_44, nz_45, nz_46, nz_47, nz_48, nz_49, nz_50, nz_51, nz_63, nz_64, nz_66, nz_127, nz_128, nz_246, nz_247, nz_248, nz_250, nz_251, nz_252, nz_254, nz_255, nz_256, nz_400, nz_2500]
  have z0 : zo_J M (zm_up (zm_up (zm_up M 35 0 34 (nI 0)) 35 0 41 (nI 0)) 35 0 42 (nI 0)) := ((zo_J.u (by omega)).tr (zo_J.u (by omega))).tr (zo_J.u (by omega))
  have q34 : zm_up (zm_up (zm_up M 35 0 34 (nI 0)) 35 0 41 (nI 0)) 35 0 42 (nI 0) 35 0 34 = nI 0 := by rw [zu_k (by decide), zu_k (by decide), zu_e]
  have q41 : zm_up (zm_up (zm_up M 35 0 34 (nI 0)) 35 0 41 (nI 0)) 35 0 42 (nI 0) 35 0 41 = nI 0 := by rw [zu_k (by decide), zu_e]
  have q42 : zm_up (zm_up (zm_up M 35 0 34 (nI 0)) 35 0 41 (nI 0)) 35 0 42 (nI 0) 35 0 42 = nI 0 := zu_e
  generalize zm_up (zm_up (zm_up M 35 0 34 (nI 0)) 35 0 41 (nI 0)) 35 0 42 (nI 0) = M0 at z0 q34 q41 q42 ⊢
  obtain ⟨M1, a1, a2, a3⟩ := sm_first hwP (z0.P hP)
  obtain ⟨M2, b1, b2, b3⟩ := sm_enlist a3 hok.1
  rw [a1, Option.bind_some, b1, Option.bind_some]
  have k2 : ∀ k, k ≠ 20 → k ≠ 21 → k ≠ 37 → M2 35 0 k = M0 35 0 k := by
    intro k p q r
    rw [b2 35 0 k (by omega) (by decide), a2 35 0 k (by omega) (by decide) (by decide)]
  have z2 : zo_J M M2 := by
    intro s i k p q
    rw [b2 s i k (by omega) (by omega), a2 s i k (by omega) (by omega) (by omega), z0 s i k p q]
  have hs : ms_s M2 B (sp_lst (sp_fst P).1) (sp_fst P).1 (sp_fst P).2.1 (sp_fst P).2.2 B := by
    refine ⟨z2.B hB, ⟨0, rfl, Nat.zero_le _, ?_, ?_⟩, hb, ⟨b3.1, b3.2.1, b3.2.2.1, fun t ht => by have := sp_wt_lt (b3.2.2.2 t ht); omega⟩, b3.2.2.2, lst_sl hok.2.1 hok.2.2.2 hok.1.1, ?_, hok.1.2⟩
    · rw [k2 41 (by decide) (by decide) (by decide)]
      exact q41
    · rw [k2 42 (by decide) (by decide) (by decide)]
      exact q42
    · unfold rm_F at a3 ⊢
      rw [show M2 47 0 = M1 47 0 from funext fun k => b2 47 0 k (by omega) (by decide), show M2 48 0 = M1 48 0 from funext fun k => b2 48 0 k (by omega) (by decide), b2 35 0 20 (by omega) (by decide), b2 35 0 21 (by omega) (by decide)]
      exact a3
  have hR : rm_R M2 [] := ⟨by simp, by rw [k2 34 (by decide) (by decide) (by decide)]; exact q34, fun i hi => by simp at hi⟩
  obtain ⟨M3, c1, c2, c3⟩ := so_rr_lp hwP hl 50 (1073741823 + 1) M2 _ _ _ B _ 0 [] none none none none none rfl (by omega) (z2.P hP) hs hR (by omega) (fun p _ _ => Nat.zero_le _)
  rw [show -nI 1 = vl 0 from rfl, c1]
  refine ⟨M3, rfl, z2.tr c2, ?_⟩
  intro R hR
  have := c3 R hR
  rw [List.nil_append] at this
  exact this
