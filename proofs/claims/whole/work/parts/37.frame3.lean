theorem gd_map {g : Nat → Nat} {L : List Nat} {i : Nat} (h : i < L.length) : (L.map g).getD i 0 = g (L.getD i 0) := by
  rw [List.getD_eq_getElem?_getD, List.getD_eq_getElem?_getD, List.getElem?_map, List.getElem?_eq_getElem h]
  rfl
theorem gd_mem {L : List Nat} {i : Nat} (h : i < L.length) : L.getD i 0 ∈ L := by
  rw [List.getD_eq_getElem?_getD, List.getElem?_eq_getElem h]
  exact List.getElem_mem h
theorem sp_sl_rep {x y : Nat} (h : sp_wd x = sp_wd y) : ∀ T : List Nat, sp_sl (sp_rep x y T) = sp_sl T
  | [] => rfl
  | t :: T => by
    have ih := sp_sl_rep h T
    show sp_sl ((if t = x then y else t) :: sp_rep x y T) = _
    rw [sp_sl_c, sp_sl_c, ih]
    split
    · next e => rw [e, h]
    · rfl
theorem rg_rep {x y i : Nat} {g : Nat → Int32} {T : List Nat} {k n : Nat} (hi : i < n) (hk : k < T.length) (hg : g i = nI (T.getD k 0)) (hw : ∀ t ∈ T, t < 2 ^ 31) (hx : x < 2 ^ 31) : rp_rg x y g n i = nI ((sp_rep x y T).getD k 0) := by
  have hq : g i = nI x ↔ T.getD k 0 = x := by rw [hg]; exact nI_eq (hw _ (gd_mem hk)) hx
  unfold rp_rg sp_rep
  rw [gd_map hk]
  by_cases e : T.getD k 0 = x
  · rw [if_pos ⟨hi, hq.mpr e⟩, if_pos e]
  · rw [if_neg (fun q => e (hq.mp q.2)), if_neg e, hg]
theorem sc_rep {M : zm_M} {f x y : Nat} {F : sp_F} (h : rc_F M f F) (hw : wf_F F) (hx : x < 2 ^ 31) (hxy : sp_wd x = sp_wd y) : ∃ M', fn_fr_replaceAll [.inr (23, f), .inl (nI x), .inl (nI y)] M = some M' ∧ zo_F f M M' ∧ rc_F M' f (sp_rep x y F.1, sp_rep x y F.2.1, F.2.2) := by
  obtain ⟨⟨a, b, c, d, e⟩, hsl, h8⟩ := h
  have hl := sp_sl_len F.2.1
  rw [eq_fr_replaceAll, show (1073741824 : Nat) = 1073741823 + 1 from rfl, eq_fr_replaceAll_0, nz_0]
  obtain ⟨n', h1, h2⟩ := sc_rep_lo (M := M) (f := f) (x := x) (y := y) 10 0 (1073741823 + 1) (by omega) (by decide)
  rw [ua_id (g := rp_rg x y (M 24 f) 0) (fun j => by unfold rp_rg; rw [if_neg (by omega)])] at h1
  rw [h1]
  have h3 := sc_rep_st (M := zm_ua M 24 f (rp_rg x y (M 24 f) 10)) (f := f) (x := x) (y := y) (d := F.2.1.length) (by rw [ua_s (by decide)]; exact c) (by omega) F.2.1.length 0 (n' + 1) (by omega) (by omega)
  rw [ua_id (g := rp_rg x y _ 0) (fun j => by unfold rp_rg; rw [if_neg (by omega)])] at h3
  rw [h3]
  refine ⟨_, rfl, (zo_F.ua (by omega)).tr (zo_F.ua (by omega)), ⟨?_, ?_, ?_, ?_, ?_⟩, ?_, ?_⟩
  · show (sp_rep x y F.1).length = 10
    unfold sp_rep
    rw [List.length_map, a]
  · intro i hi
    rw [ua_s (by decide), ua_e]
    exact rg_rep hi (by omega) (b i hi) (fun t ht => by have := sp_wt_lt (hw.1 t ht); omega) hx
  · rw [ua_s (by decide), ua_s (by decide), c]
    show _ = nI (sp_rep x y F.2.1).length
    unfold sp_rep
    rw [List.length_map]
  · intro i hi
    have hlen : (sp_rep x y F.2.1).length = F.2.1.length := by unfold sp_rep; rw [List.length_map]
    dsimp only at hi
    rw [hlen] at hi
    rw [ua_e]
    show _ = nI ((sp_rep x y F.2.1).getD ((sp_rep x y F.2.1).length - 1 - i) 0)
    rw [hlen]
    exact rg_rep hi (by omega) (by rw [ua_s (by decide)]; exact d i hi) (fun t ht => by have := sp_wt_lt (hw.2 t ht); omega) hx
  · rw [ua_s (by decide), ua_s (by decide)]
    exact e
  · rw [ua_s (by decide), ua_s (by decide), hsl]
    exact congrArg nI (sp_sl_rep hxy F.2.1).symm
  · show sp_sl (sp_rep x y F.2.1) ≤ 8
    rw [sp_sl_rep hxy]
    exact h8
/-- RAW THIS is in some LOCAL -/
def sp_ht (L : List Nat) : Bool := L.any fun t => t == 6
theorem any_drop {L : List Nat} {i : Nat} (h : i < L.length) : (L.drop i).any (fun t => t == 6) = (L.getD i 0 == 6 || (L.drop (i + 1)).any fun t => t == 6) := by
  rw [List.drop_eq_getElem_cons h, List.any_cons, List.getD_eq_getElem?_getD, List.getElem?_eq_getElem h]
  rfl
theorem sc_hasRaw_lp {M : zm_M} {f : Nat} {L : List Nat} (hl : L.length = 10) (hM : ∀ i, i < 10 → M 24 f i = nI (L.getD i 0)) (hw : ∀ t ∈ L, t < 2 ^ 31) : ∀ (k i n : Nat), i + k = 10 → k < n → rr_fr_hasRawThisInLocal n 2 [some (.inr (23, f)), some (.inl (nI i))] [] M = some (bI ((L.drop i).any fun t => t == 6), M) := by
  intro k
  induction k with
  | zero =>
    intro i n h1 h2
    obtain ⟨n, rfl⟩ : ∃ m, n = m + 1 := ⟨n - 1, by omega⟩
    rw [eq_fr_hasRawThisInLocal_2]
    simp (disch := omega) only [nz_0, nz_1, nz_2, nz_3, nz_4, nz_5, nz_6, nz_7, nz_8, nz_9, nz_10, nz_11, nz_12, nz_13, nz_14, nz_15, nz_16, nz_17, nz_18, nz_19, nz_20, nz_21, nz_22, nz_23, nz_24, nz_25, nz_26, nz_27, nz_28, nz_29, nz_30, nz_31, nz_32, nz_33, nz_34, nz_35, nz_36, nz_37, nz_38, nz_39, nz_40, nz_41, nz_42, nz_43, nz_44, nz_45, nz_46, nz_47, nz_48, nz_49, nz_50, nz_51, nz_63, nz_64, nz_66, nz_127, nz_128, nz_246, nz_247, nz_248, nz_250, nz_251, nz_252, nz_254, nz_255, nz_256, nz_400, nz_2500, nI_eq, nI_ltI, nI_leI, nI_add, nI_clamp, pk_mul]
    rw [if_neg (by omega), List.drop_eq_nil_of_le (by omega)]
    rfl
  | succ k ih =>
    intro i n h1 h2
    obtain ⟨n, rfl⟩ : ∃ m, n = m + 1 := ⟨n - 1, by omega⟩
    have hlt := hw _ (gd_mem (show i < L.length by omega))
    rw [eq_fr_hasRawThisInLocal_2, any_drop (by omega)]
    simp (disch := omega) only [nz_0, nz_1, nz_2, nz_3, nz_4, nz_5, nz_6, nz_7, nz_8, nz_9, nz_10, nz_11, nz_12, nz_13, nz_14, nz_15, nz_16, nz_17, nz_18, nz_19, nz_20, nz_21, nz_22, nz_23, nz_24, nz_25, nz_26, nz_27, nz_28, nz_29, nz_30, nz_31, nz_32, nz_33, nz_34, nz_35, nz_36, nz_37, nz_38, nz_39, nz_40, nz_41, nz_42, nz_43, nz_44, nz_45, nz_46, nz_47, nz_48, nz_49, nz_50, nz_51, nz_63, nz_64, nz_66, nz_127, nz_128, nz_246, nz_247, nz_248, nz_250, nz_251, nz_252, nz_254, nz_255, nz_256, nz_400, nz_2500, nI_ltI, nI_clamp, nI_add]
    rw [if_pos (by omega), if_neg (by omega), hM i (by omega)]
    simp (disch := omega) only [nI_eq, nI_ltI, nI_leI, nI_add, nI_clamp, pk_mul]
    split
    · next e => exact rs_t (by rw [e, beq_self_eq_true, Bool.true_or])
    · next e =>
      rw [ih (i + 1) n (by omega) (by omega), beq_eq_false_iff_ne.mpr e, Bool.false_or]
theorem sc_hasRaw {M : zm_M} {f : Nat} {L : List Nat} (hl : L.length = 10) (hM : ∀ i, i < 10 → M 24 f i = nI (L.getD i 0)) (hw : ∀ t ∈ L, t < 2 ^ 31) : fn_fr_hasRawThisInLocal [.inr (23, f)] M = some (bI (sp_ht L), M) := by
  rw [eq_fr_hasRawThisInLocal, show (1073741824 : Nat) = 1073741823 + 1 from rfl, eq_fr_hasRawThisInLocal_0, nz_0]
  exact sc_hasRaw_lp hl hM hw 10 0 (1073741823 + 1) (by omega) (by decide)
/-! one FRAME becomes another -/
theorem sc_takeOver {M : zm_M} {f g : Nat} {F : sp_F} (h : rc_F M g F) : ∃ M', fn_fr_takeOver [.inr (23, f), .inr (23, g)] M = some M' ∧ zo_F f M M' ∧ rc_F M' f F := by
  obtain ⟨⟨a, b, c, d, e⟩, hsl, h8⟩ := h
  have hl := sp_sl_len F.2.1
  have c10 : (10 : Int32).toNatClampNeg = 10 := by decide
  have c0 : (0 : Int32).toNatClampNeg = 0 := by decide
  have ac1 : zm_ac zt_Y [.inr (24, g), .inl 0, .inr (24, f), .inl 0, .inl 10] M = some (zm_ua M 24 f (va_cpy (M 24 g) (M 24 f) 0 0 10)) := by
    show (if (0 : Int32) < 0 ∨ (0 : Int32) < 0 ∨ (10 : Int32) < 0 ∨ 10 < (0 : Int32).toNatClampNeg + (10 : Int32).toNatClampNeg ∨ 10 < (0 : Int32).toNatClampNeg + (10 : Int32).toNatClampNeg then none else some (zm_ua M 24 f (va_cpy (M 24 g) (M 24 f) (0 : Int32).toNatClampNeg (0 : Int32).toNatClampNeg (10 : Int32).toNatClampNeg))) = _
    rw [c10, c0, if_neg (by decide)]
  rw [eq_fr_takeOver, ac1]
  simp only [Option.bind_some]
  have ac2 : ∀ Q : zm_M, Q 23 g 2 = nI F.2.1.length → zm_ac zt_Y [.inr (25, g), .inl 0, .inr (25, f), .inl 0, .inl (Q 23 g 2)] Q = some (zm_ua Q 25 f (va_cpy (Q 25 g) (Q 25 f) 0 0 F.2.1.length)) := by
    intro Q hQ
    show (if (0 : Int32) < 0 ∨ (0 : Int32) < 0 ∨ Q 23 g 2 < 0 ∨ 8 < (0 : Int32).toNatClampNeg + (Q 23 g 2).toNatClampNeg ∨ 8 < (0 : Int32).toNatClampNeg + (Q 23 g 2).toNatClampNeg then none else some (zm_ua Q 25 f (va_cpy (Q 25 g) (Q 25 f) (0 : Int32).toNatClampNeg (0 : Int32).toNatClampNeg (Q 23 g 2).toNatClampNeg))) = _
    have hp := nI_pos (show F.2.1.length < 2 ^ 31 by omega)
    rw [hQ, nI_clamp (by omega), c0, if_neg (by
      rintro (q | q | q | q | q)
      · exact absurd q (by decide)
      · exact absurd q (by decide)
      · exact hp q
      · omega
      · omega)]
  rw [ac2 _ (by rw [ua_s (by decide)]; exact c)]
  simp only [Option.bind_some]
  have hr : ∀ (g1 g2 : Nat → Int32), zm_ua (zm_ua M 24 f g1) 25 f g2 23 = M 23 := fun g1 g2 => by rw [ua_s (by decide), ua_s (by decide)]
  rw [hr, e, if_pos (by cases F.2.2 <;> decide)]
  refine ⟨_, rfl, ((((zo_F.ua (by omega)).tr (zo_F.ua (by omega))).tr (zo_F.up (by omega))).tr (zo_F.up (by omega))).tr (zo_F.up (by omega)), ⟨a, ?_, ?_, ?_, ?_⟩, ?_, h8⟩
  · intro i hi
    simp (disch := omega) only [zu_s, zu_e, zu_k]
    rw [ua_s (by decide), ua_e, pk_cpy_in (by omega) (by omega), ← b i hi]
    congr 1
    omega
  · simp (disch := omega) only [zu_s, zu_e, zu_k]
    exact c
  · intro i hi
    simp (disch := omega) only [zu_s, zu_e, zu_k]
    rw [ua_e, pk_cpy_in (by omega) (by omega), ← d i hi, ua_s (by decide)]
    congr 1
    omega
  · simp (disch := omega) only [zu_s, zu_e, zu_k]
  · simp (disch := omega) only [zu_s, zu_e, zu_k]
    exact hsl
