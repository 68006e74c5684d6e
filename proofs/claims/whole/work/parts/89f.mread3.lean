/-! the reference: rests of rows -/
theorem sp_rl_s (k : Nat) (X D : List Nat) : sp_rl (k + 1) X D = (sp_rl 1 X D).bind fun q => sp_rl k q.1 q.2 := by
  unfold sp_rl
  cases sp_ty D with
  | none => rfl
  | some q =>
    rw [Option.bind_some, Option.bind_some]
    split
    · cases k with
      | zero => simp [sp_rl]
      | succ k => simp [sp_rl]
    · rfl
theorem sp_rt_s (k : Nat) (T D : List Nat) : sp_rt (k + 1) T D = (sp_rt 1 T D).bind fun q => sp_rt k q.1 q.2 := by
  unfold sp_rt
  cases sp_ty D with
  | none => rfl
  | some q =>
    rw [Option.bind_some, Option.bind_some]
    cases sp_psh q.1 T with
    | none => rfl
    | some T' =>
      rw [Option.bind_some, Option.bind_some]
      cases k with
      | zero => simp [sp_rt]
      | succ k => simp [sp_rt]
theorem sm_ls {M : zm_M} {B X L T : List Nat} {b : Bool} {D : List Nat} (hl : B.length ≤ 400) (h : ms_s M B X L T b D) : ∃ M1 t M2, fn_mo_typeNext [.inr (35, 0)] M = some (nI t, M1) ∧ fn_mo_enter [.inr (35, 0), .inl (nI t)] M1 = some M2 ∧ zo_I M M2 ∧ (sp_rl 1 X D = none → ms_w M2 B true) ∧ ∀ X' D', sp_rl 1 X D = some (X', D') → ms_s M2 B X' L T b D' := by
  obtain ⟨h1, h2, h3, h4, h5, h6, h7, h8⟩ := id h
  obtain ⟨M1, t, D', a1, a2, a3, a4, a5, a6⟩ := so_type h1 hl h2 h3
  obtain ⟨M2, b1, b2, b3⟩ := sm_enter (a2.X h4) (show t < 2 ^ 31 by omega)
  have hT31 : ∀ t ∈ T, t < 2 ^ 31 := fun t ht => by have := sp_wt_lt (h8 t ht); omega
  have w1 : ms_w M1 B (false || (sp_ty D).isNone) := a2.w h.w a4 a5
  refine ⟨M1, t, M2, a1, b1, ?_, ?_, ?_⟩
  · by_cases e : sp_sl X + sp_wd t ≤ 10
    · rw [(b2 e).1]
      exact a2.i.tr ((zo_I.a (by omega)).tr (zo_I.u (by omega)))
    · rw [b3 e]
      exact a2.i.tr (zo_I.u (by omega))
  · intro hn
    by_cases e : sp_sl X + sp_wd t ≤ 10
    · have hty : sp_ty D = none := by
        cases hty : sp_ty D with
        | none => rfl
        | some q =>
          obtain ⟨t0, D0⟩ := q
          obtain ⟨e3, e4⟩ := a6 t0 D0 hty
          subst e3 e4
          unfold sp_rl at hn
          rw [hty, Option.bind_some] at hn
          dsimp only at hn
          rw [if_pos e] at hn
          cases hn
      rw [hty] at a4
      have a4 : rd_M M1 B D' true := a4
      obtain ⟨e1, e2⟩ := b2 e
      have k : ∀ s i k, ¬ (s = 35 ∧ k = 37) → s ≠ 59 → M2 s i k = M1 s i k := by
        intro s i k p q
        rw [e1]
        by_cases es : s = 35
        · rw [zu_k (by omega), zu_s q]
        · rw [zu_s es, zu_s q]
      have hB1 := a2.B h1
      have hF1 := a2.F h7
      refine ⟨⟨by rw [k 35 0 7 (by omega) (by decide)]; exact hB1.1, fun i hi => by rw [k 46 0 i (by omega) (by decide)]; exact hB1.2 i hi⟩, ⟨D', a4.k (k 35 0 41 (by omega) (by decide)) (k 35 0 42 (by omega) (by decide)), a5⟩, ⟨_, e2⟩, (L, T, b), ?_, hT31⟩
      unfold rm_F at hF1 ⊢
      rw [show M2 47 0 = M1 47 0 from funext fun j => k 47 0 j (by omega) (by decide), show M2 48 0 = M1 48 0 from funext fun j => k 48 0 j (by omega) (by decide), k 35 0 20 (by omega) (by decide), k 35 0 21 (by omega) (by decide)]
      exact hF1
    · rw [b3 e]
      obtain ⟨-, ⟨D1, w2, w2'⟩, -⟩ := id w1
      exact (zo_t.u (k := 42) (x := nI 1) (by omega)).w w1 w2.br w2'
  · intro X' D0 hn
    unfold sp_rl at hn
    rw [Option.bind_eq_some_iff] at hn
    obtain ⟨⟨t0, D1⟩, q1, q2⟩ := hn
    obtain ⟨e3, e4⟩ := a6 t0 D1 q1
    subst e3 e4
    dsimp only at q2
    split at q2
    · next e =>
      unfold sp_rl at q2
      cases q2
      rw [q1] at a4
      have a4 : rd_M M1 B D' false := a4
      have hwt := (sp_ty_wt h3 q1).1
      obtain ⟨e1, e2⟩ := b2 e
      have k : ∀ s i k, ¬ (s = 35 ∧ k = 37) → s ≠ 59 → M2 s i k = M1 s i k := by
        intro s i k p q
        rw [e1]
        by_cases es : s = 35
        · rw [zu_k (by omega), zu_s q]
        · rw [zu_s es, zu_s q]
      have hB1 := a2.B h1
      have hF1 := a2.F h7
      refine ⟨⟨by rw [k 35 0 7 (by omega) (by decide)]; exact hB1.1, fun i hi => by rw [k 46 0 i (by omega) (by decide)]; exact hB1.2 i hi⟩, a4.k (k 35 0 41 (by omega) (by decide)) (k 35 0 42 (by omega) (by decide)), a5, e2, ?_, ?_, ?_, h8⟩
      · intro u hu
        rcases List.mem_append.mp hu with hu | hu
        · exact h5 u hu
        · rw [List.mem_singleton] at hu
          rw [hu]
          exact hwt
      · rw [sl_app]
        exact e
      · unfold rm_F at hF1 ⊢
        rw [show M2 47 0 = M1 47 0 from funext fun j => k 47 0 j (by omega) (by decide), show M2 48 0 = M1 48 0 from funext fun j => k 48 0 j (by omega) (by decide), k 35 0 20 (by omega) (by decide), k 35 0 21 (by omega) (by decide)]
        exact hF1
    · cases q2
theorem sm_tw {M : zm_M} {B X L T : List Nat} {b : Bool} {D : List Nat} (hl : B.length ≤ 400) (h : ms_s M B X L T b D) : ∃ M' v, fn_mo_twoNext [.inr (35, 0)] M = some (nI v, M') ∧ v < 65536 ∧ zo_I M M' ∧ ((D.length < 2) → ms_w M' B true) ∧ ∀ x y D', D = x :: y :: D' → v = 256 * x + y ∧ ms_s M' B X L T b D' := by
  obtain ⟨h1, h2, h3, h4, h5, h6, h7, h8⟩ := id h
  obtain ⟨M1, a1, a2, a3⟩ := so_two h1 hl h2 h3
  obtain ⟨k1, k2⟩ := hd_lt h3
  obtain ⟨k3, k4⟩ := hd_lt k2
  refine ⟨M1, _, a1, by omega, a2.i, ?_, ?_⟩
  · intro hd
    have hbr : (false || D.isEmpty || D.tail.isEmpty) = true := by
      match D, hd with
      | [], _ => rfl
      | [x], _ => rfl
      | x :: y :: D, hd => simp only [List.length_cons] at hd; omega
    rw [hbr] at a3
    exact a2.w h.w a3 k4
  · rintro x y D' rfl
    have a3 : rd_M M1 B D' false := a3
    exact ⟨rfl, a2.B h1, a3, k4, a2.X h4, h5, h6, a2.F h7, h8⟩
/-- a broken reading goes on to its end -/
theorem ms_w.f {M : zm_M} {B : List Nat} {br : Bool} (h : ms_w M B br) : M 35 0 42 = bI br := by
  obtain ⟨-, ⟨D, ⟨q, -, -, -, h4⟩, -⟩, -⟩ := h
  exact h4
theorem ms_s.f {M : zm_M} {B X L T : List Nat} {b : Bool} {D : List Nat} (h : ms_s M B X L T b D) : M 35 0 42 = nI 0 := h.w.f
theorem so_f47w {M : zm_M} {B : List Nat} {v1 v2 : Int32} {o3 : Option zm_V} {n : Nat} (h : ms_w M B true) : rr_mo_readFull (n + 1) 47 [some (.inr (35, 0)), some (.inl v1), some (.inl v2), o3] [] M = some M := by
  rw [eq_mo_readFull_47, h.f]
  simp only [nz_0, nz_1, nz_2, nz_3, nz_4, nz_5, nz_6, nz_7, nz_8, nz_9, nz_10, nz_11, nz_12, nz_13, nz_14, nz_15, nz_16, nz_17, nz_18, nz_19, nz_20, nz_21, nz_22, nz_23, nz_24, nz_25, nz_26, nz_27, nz_28, nz_29, nz_30, nz_31, nz_32, nz_33, nz_34, nz_35, nz_36, nz_37, nz_38, nz_39, nz_40, nz_41, nz_42, nz_43, nz_44, nz_45, nz_46, nz_47, nz_48, nz_49, nz_50, nz_51, nz_63, nz_64, nz_66, nz_127, nz_128, nz_246, nz_247, nz_248, nz_250, nz_251, nz_252, nz_254, nz_255, nz_256, nz_400, nz_2500]
  rw [if_neg (show ¬ bI true = nI 0 by decide), ite_self]
theorem so_f47 {B X L : List Nat} {b : Bool} (hl : B.length ≤ 400) {m : Nat} (hm : m < 2 ^ 20) : ∀ (k i n : Nat) (M : zm_M) (T D : List Nat) (o3 : Option zm_V), i + k = m → k < n → ms_s M B X L T b D → ∃ M', rr_mo_readFull n 47 [some (.inr (35, 0)), some (.inl (nI m)), some (.inl (nI i)), o3] [] M = some M' ∧ zo_I M M' ∧ (sp_rt k T D = none → ms_w M' B true) ∧ ∀ T' D', sp_rt k T D = some (T', D') → ms_s M' B X L T' b D' := by
  intro k
  induction k with
  | zero =>
    intro i n M T D o3 hk hn h
    obtain ⟨n, rfl⟩ : ∃ q, n = q + 1 := ⟨n - 1, by omega⟩
    rw [eq_mo_readFull_47, if_neg (ni_nl (by omega) (by omega) (by omega))]
    refine ⟨M, rfl, zo_I.rf, fun q => (by cases q), ?_⟩
    intro T' D' q
    cases q
    exact h
  | succ k ih =>
    intro i n M T D o3 hk hn h
    obtain ⟨n, rfl⟩ : ∃ q, n = q + 1 := ⟨n - 1, by omega⟩
    obtain ⟨M1, a1, a2, -, a4⟩ := sm_sn hl h.w
    obtain ⟨a5, a6⟩ := a4 X L T b D rfl h
    rw [eq_mo_readFull_47, if_pos (ni_lt (by omega) (by omega) (by omega)), h.f]
    simp only [nz_0, nz_1, nz_2, nz_3, nz_4, nz_5, nz_6, nz_7, nz_8, nz_9, nz_10, nz_11, nz_12, nz_13, nz_14, nz_15, nz_16, nz_17, nz_18, nz_19, nz_20, nz_21, nz_22, nz_23, nz_24, nz_25, nz_26, nz_27, nz_28, nz_29, nz_30, nz_31, nz_32, nz_33, nz_34, nz_35, nz_36, nz_37, nz_38, nz_39, nz_40, nz_41, nz_42, nz_43, nz_44, nz_45, nz_46, nz_47, nz_48, nz_49, nz_50, nz_51, nz_63, nz_64, nz_66, nz_127, nz_128, nz_246, nz_247, nz_248, nz_250, nz_251, nz_252, nz_254, nz_255, nz_256, nz_400, nz_2500, nI_add]
    rw [if_pos trivial, a1, Option.bind_some, sp_rt_s]
    cases hrt : sp_rt 1 T D with
    | none =>
      obtain ⟨n, rfl⟩ : ∃ q, n = q + 1 := ⟨n - 1, by omega⟩
      have w := a5 hrt
      rw [so_f47w w]
      exact ⟨M1, rfl, a2, fun _ => w, fun T' D' q => by cases q⟩
    | some q =>
      obtain ⟨T1, D1⟩ := q
      obtain ⟨M2, b1, b2, b3, b4⟩ := ih (i + 1) n M1 T1 D1 o3 (by omega) (by omega) (a6 T1 D1 hrt)
      rw [b1]
      exact ⟨M2, rfl, a2.tr b2, b3, b4⟩
theorem so_f12w {M : zm_M} {B : List Nat} {v1 v2 : Int32} {o3 : Option zm_V} {n : Nat} (hl : B.length ≤ 400) (h : ms_w M B true) : ∃ M', rr_mo_readFull (n + 1) 12 [some (.inr (35, 0)), some (.inl v1), some (.inl v2), o3] [] M = some M' ∧ zo_I M M' ∧ ms_w M' B true := by
  obtain ⟨M1, v, a1, a2, a3, b', a4⟩ := sm_tw_w hl h
  rw [Bool.true_or] at a4
  rw [eq_mo_readFull_12, h.f]
  simp only [nz_0, nz_1, nz_2, nz_3, nz_4, nz_5, nz_6, nz_7, nz_8, nz_9, nz_10, nz_11, nz_12, nz_13, nz_14, nz_15, nz_16, nz_17, nz_18, nz_19, nz_20, nz_21, nz_22, nz_23, nz_24, nz_25, nz_26, nz_27, nz_28, nz_29, nz_30, nz_31, nz_32, nz_33, nz_34, nz_35, nz_36, nz_37, nz_38, nz_39, nz_40, nz_41, nz_42, nz_43, nz_44, nz_45, nz_46, nz_47, nz_48, nz_49, nz_50, nz_51, nz_63, nz_64, nz_66, nz_127, nz_128, nz_246, nz_247, nz_248, nz_250, nz_251, nz_252, nz_254, nz_255, nz_256, nz_400, nz_2500]
  rw [if_neg (show ¬ bI true = nI 0 by decide), a1, Option.bind_some, so_f47w a4, ite_self]
  exact ⟨M1, rfl, a3, a4⟩
theorem so_f12 {B L T : List Nat} {b : Bool} (hl : B.length ≤ 400) {m : Nat} (hm : m < 2 ^ 20) : ∀ (k i n : Nat) (M : zm_M) (X D : List Nat) (o3 : Option zm_V), i + k = m → k + 70000 < n → ms_s M B X L T b D → ∃ M', rr_mo_readFull n 12 [some (.inr (35, 0)), some (.inl (nI m)), some (.inl (nI i)), o3] [] M = some M' ∧ zo_I M M' ∧ (((sp_rl k X D).bind fun q => (match q.2 with
      | h3 :: l3 :: D => (sp_rt (256 * h3 + l3) T D).map fun r => (q.1, r.1, r.2)
      | _ => none)) = none → ms_w M' B true) ∧ ∀ X' T' D', ((sp_rl k X D).bind fun q => (match q.2 with
      | h3 :: l3 :: D => (sp_rt (256 * h3 + l3) T D).map fun r => (q.1, r.1, r.2)
      | _ => none)) = some (X', T', D') → ms_s M' B X' L T' b D' := by
  intro k
  induction k with
  | zero =>
    intro i n M X D o3 hk hn h
    obtain ⟨n, rfl⟩ : ∃ q, n = q + 1 := ⟨n - 1, by omega⟩
    obtain ⟨M1, v, a1, a2, a3, a4, a5⟩ := sm_tw hl h
    rw [eq_mo_readFull_12, if_neg (ni_nl (by omega) (by omega) (by omega)), a1, Option.bind_some]
    simp only [nz_0, nz_1, nz_2, nz_3, nz_4, nz_5, nz_6, nz_7, nz_8, nz_9, nz_10, nz_11, nz_12, nz_13, nz_14, nz_15, nz_16, nz_17, nz_18, nz_19, nz_20, nz_21, nz_22, nz_23, nz_24, nz_25, nz_26, nz_27, nz_28, nz_29, nz_30, nz_31, nz_32, nz_33, nz_34, nz_35, nz_36, nz_37, nz_38, nz_39, nz_40, nz_41, nz_42, nz_43, nz_44, nz_45, nz_46, nz_47, nz_48, nz_49, nz_50, nz_51, nz_63, nz_64, nz_66, nz_127, nz_128, nz_246, nz_247, nz_248, nz_250, nz_251, nz_252, nz_254, nz_255, nz_256, nz_400, nz_2500]
    have hrl : sp_rl 0 X D = some (X, D) := rfl
    rw [hrl, Option.bind_some]
    match D, a4, a5 with
    | [], a4, _ =>
      have w := a4 (by decide)
      rw [so_f47w w]
      exact ⟨M1, rfl, a3, fun _ => w, fun X' T' D' q => by cases q⟩
    | [x], a4, _ =>
      have w := a4 (by simp)
      rw [so_f47w w]
      exact ⟨M1, rfl, a3, fun _ => w, fun X' T' D' q => by cases q⟩
    | x :: y :: D, _, a5 =>
      obtain ⟨e1, e2⟩ := a5 x y D rfl
      subst e1
      obtain ⟨M2, b1, b2, b3, b4⟩ := so_f47 hl (show 256 * x + y < 2 ^ 20 by omega) (256 * x + y) 0 (n + 1) M1 T D o3 (by omega) (by omega) e2
      rw [b1]
      dsimp only
      refine ⟨M2, rfl, a3.tr b2, ?_, ?_⟩
      · intro q
        exact b3 (Option.map_eq_none_iff.mp q)
      · intro X' T' D' q
        rw [Option.map_eq_some_iff] at q
        obtain ⟨⟨T1, D1⟩, q1, q2⟩ := q
        cases q2
        exact b4 T1 D1 q1
  | succ k ih =>
    intro i n M X D o3 hk hn h
    obtain ⟨n, rfl⟩ : ∃ q, n = q + 1 := ⟨n - 1, by omega⟩
    obtain ⟨M1, t, M2, a1, a2, a3, a4, a5⟩ := sm_ls hl h
    rw [eq_mo_readFull_12, if_pos (ni_lt (by omega) (by omega) (by omega)), h.f]
    simp only [nz_0, nz_1, nz_2, nz_3, nz_4, nz_5, nz_6, nz_7, nz_8, nz_9, nz_10, nz_11, nz_12, nz_13, nz_14, nz_15, nz_16, nz_17, nz_18, nz_19, nz_20, nz_21, nz_22, nz_23, nz_24, nz_25, nz_26, nz_27, nz_28, nz_29, nz_30, nz_31, nz_32, nz_33, nz_34, nz_35, nz_36, nz_37, nz_38, nz_39, nz_40, nz_41, nz_42, nz_43, nz_44, nz_45, nz_46, nz_47, nz_48, nz_49, nz_50, nz_51, nz_63, nz_64, nz_66, nz_127, nz_128, nz_246, nz_247, nz_248, nz_250, nz_251, nz_252, nz_254, nz_255, nz_256, nz_400, nz_2500, nI_add]
    rw [if_pos trivial, a1, Option.bind_some, a2, Option.bind_some, sp_rl_s]
    cases hrl : sp_rl 1 X D with
    | none =>
      obtain ⟨n, rfl⟩ : ∃ q, n = q + 1 := ⟨n - 1, by omega⟩
      obtain ⟨M3, b1, b2, b3⟩ := so_f12w (v1 := nI m) (v2 := nI (i + 1)) (o3 := some (.inl (nI t))) (n := n) hl (a4 hrl)
      rw [b1]
      exact ⟨M3, rfl, a3.tr b2, fun _ => b3, fun X' T' D' q => by cases q⟩
    | some q =>
      obtain ⟨X1, D1⟩ := q
      obtain ⟨M3, b1, b2, b3, b4⟩ := ih (i + 1) n M2 X1 D1 (some (.inl (nI t))) (by omega) (by omega) (a5 X1 D1 hrl)
      rw [b1]
      exact ⟨M3, rfl, a3.tr b2, b3, b4⟩
theorem ms_s.nil {M : zm_M} {B X L T : List Nat} {b : Bool} {D : List Nat} (h : ms_s M B X L T b D) : ms_s (zm_up M 35 0 37 (nI 0)) B [] L T b D := by
  obtain ⟨h1, h2, h3, h4, h5, h6, h7, h8⟩ := h
  refine ⟨⟨by rw [zu_k (by decide)]; exact h1.1, fun i hi => by rw [zu_s (by decide)]; exact h1.2 i hi⟩, h2.k (zu_k (by decide)) (zu_k (by decide)), h3, ⟨zu_e, by decide, fun i hi => (by simp at hi), fun t ht => (by cases ht)⟩, fun t ht => (by cases ht), Nat.zero_le _, ?_, h8⟩
  unfold rm_F at h7 ⊢
  rw [zu_s (by decide), zu_s (by decide), zu_k (by decide), zu_k (by decide)]
  exact h7
theorem ms_w.nil {M : zm_M} {B : List Nat} {br : Bool} (h : ms_w M B br) : ms_w (zm_up M 35 0 37 (nI 0)) B br := by
  obtain ⟨h1, ⟨D, h2, h3⟩, -, F, h7, h8⟩ := h
  refine ⟨⟨by rw [zu_k (by decide)]; exact h1.1, fun i hi => by rw [zu_s (by decide)]; exact h1.2 i hi⟩, ⟨D, h2.k (zu_k (by decide)) (zu_k (by decide)), h3⟩, ⟨[], zu_e, by decide, fun i hi => (by simp at hi), fun t ht => (by cases ht)⟩, F, ?_, h8⟩
  unfold rm_F at h7 ⊢
  rw [zu_s (by decide), zu_s (by decide), zu_k (by decide), zu_k (by decide)]
  exact h7
theorem sm_full_w {M : zm_M} {B : List Nat} (hl : B.length ≤ 400) (h : ms_w M B true) : ∃ M', fn_mo_readFull [.inr (35, 0)] M = some M' ∧ zo_I M M' ∧ ms_w M' B true := by
  obtain ⟨M1, v, a1, a2, a3, b', a4⟩ := sm_tw_w hl h.nil
  rw [Bool.true_or] at a4
  rw [eq_mo_readFull, show (1073741824 : Nat) = 1073741823 + 1 from rfl, eq_mo_readFull_0]
  simp only [nz_0, nz_1, nz_2, nz_3, nz_4, nz_5, nz_6, nz_7, nz_8, nz_9, nz_10, nz_11, nz_12, nz_13, nz_14, nz_15, nz_16, nz_17, nz_18, nz_19, nz_20, nz_21, nz_22, nz_23, nz_24, nz_25, nz_26, nz_27, nz_28, nz_29, nz_30, nz_31, nz_32, nz_33, nz_34, nz_35, nz_36, nz_37, nz_38, nz_39, nz_40, nz_41, nz_42, nz_43, nz_44, nz_45, nz_46, nz_47, nz_48, nz_49, nz_50, nz_51, nz_63, nz_64, nz_66, nz_127, nz_128, nz_246, nz_247, nz_248, nz_250, nz_251, nz_252, nz_254, nz_255, nz_256, nz_400, nz_2500]
  rw [a1, Option.bind_some]
  obtain ⟨M2, b1, b2, b3⟩ := so_f12w (v1 := nI v) (v2 := nI 0) (o3 := none) (n := 1073741823) hl a4
  rw [b1]
  exact ⟨M2, rfl, ((zo_I.u (by omega)).tr a3).tr b2, b3⟩
theorem sm_full {M : zm_M} {B X L : List Nat} {b : Bool} {D : List Nat} (hl : B.length ≤ 400) (h : ms_s M B X L [] b D) : ∃ M', fn_mo_readFull [.inr (35, 0)] M = some M' ∧ zo_I M M' ∧ (sp_rest 255 X D = none → ms_w M' B true) ∧ ∀ X' T' D', sp_rest 255 X D = some (X', T', D') → ms_s M' B X' L T' b D' := by
  obtain ⟨M1, v, a1, a2, a3, a4, a5⟩ := sm_tw hl h.nil
  rw [eq_mo_readFull, show (1073741824 : Nat) = 1073741823 + 1 from rfl, eq_mo_readFull_0]
  simp only [nz_0, nz_1, nz_2, nz_3, nz_4, nz_5, nz_6, nz_7, nz_8, nz_9, nz_10, nz_11, nz_12, nz_13, nz_14, nz_15, nz_16, nz_17, nz_18, nz_19, nz_20, nz_21, nz_22, nz_23, nz_24, nz_25, nz_26, nz_27, nz_28, nz_29, nz_30, nz_31, nz_32, nz_33, nz_34, nz_35, nz_36, nz_37, nz_38, nz_39, nz_40, nz_41, nz_42, nz_43, nz_44, nz_45, nz_46, nz_47, nz_48, nz_49, nz_50, nz_51, nz_63, nz_64, nz_66, nz_127, nz_128, nz_246, nz_247, nz_248, nz_250, nz_251, nz_252, nz_254, nz_255, nz_256, nz_400, nz_2500]
  rw [a1, Option.bind_some]
  have z1 : zo_I M M1 := (zo_I.u (by omega)).tr a3
  unfold sp_rest
  simp only [if_neg (show ¬ 255 = 247 by decide), if_true]
  match D, a4, a5 with
  | [], a4, _ =>
    obtain ⟨M2, b1, b2, b3⟩ := so_f12w (v1 := nI v) (v2 := nI 0) (o3 := none) (n := 1073741823) hl (a4 (by decide))
    rw [b1]
    exact ⟨M2, rfl, z1.tr b2, fun _ => b3, fun X' T' D' q => by cases q⟩
  | [x], a4, _ =>
    obtain ⟨M2, b1, b2, b3⟩ := so_f12w (v1 := nI v) (v2 := nI 0) (o3 := none) (n := 1073741823) hl (a4 (by simp))
    rw [b1]
    exact ⟨M2, rfl, z1.tr b2, fun _ => b3, fun X' T' D' q => by cases q⟩
  | x :: y :: D, _, a5 =>
    obtain ⟨e1, e2⟩ := a5 x y D rfl
    subst e1
    obtain ⟨M2, b1, b2, b3, b4⟩ := so_f12 hl (show 256 * x + y < 2 ^ 20 by omega) (256 * x + y) 0 (1073741823 + 1) M1 [] D none (by omega) (by omega) e2
    rw [b1]
    exact ⟨M2, rfl, z1.tr b2, b3, b4⟩
