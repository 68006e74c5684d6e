/-! READING: bytes as rows -/
def sp_ty : List Nat → Option (Nat × List Nat)
  | [] => none
  | k :: D => if 8 < k then none else if k < 7 then some (k, D) else (match D with
    | h :: l :: D' => if k = 7 ∧ 8 ≤ 256 * h + l then none else some (16 * (256 * h + l) + k, D')
    | _ => none)
def sp_rl : Nat → List Nat → List Nat → Option (List Nat × List Nat)
  | 0, X, D => some (X, D)
  | n + 1, X, D => (sp_ty D).bind fun q => if sp_sl X + sp_wd q.1 ≤ 10 then sp_rl n (X ++ [q.1]) q.2 else none
def sp_rt : Nat → List Nat → List Nat → Option (List Nat × List Nat)
  | 0, T, D => some (T, D)
  | n + 1, T, D => (sp_ty D).bind fun q => (sp_psh q.1 T).bind fun T' => sp_rt n T' q.2
/-- LIST, STACK, the bytes behind -/
def sp_rest (b : Nat) (X D : List Nat) : Option (List Nat × List Nat × List Nat) :=
  if b = 247 then (sp_rt 1 [] D).map fun q => (X, q.1, q.2)
  else if b = 255 then (match D with
    | h2 :: l2 :: D => (sp_rl (256 * h2 + l2) [] D).bind fun q => (match q.2 with
      | h3 :: l3 :: D => (sp_rt (256 * h3 + l3) [] D).map fun r => (q.1, r.1, r.2)
      | _ => none)
    | _ => none)
  else if b < 251 then (if 251 - b ≤ X.length then some (X.take (X.length - (251 - b)), [], D) else none)
  else (sp_rl (b - 251) X D).map fun q => (q.1, [], q.2)
/-- LIST, STACK, DELTA, the bytes behind -/
def sp_ro (b : Nat) (X D : List Nat) : Option (List Nat × List Nat × Nat × List Nat) :=
  if b < 128 then (sp_rt (b / 64) [] D).map fun q => (X, q.1, b % 64, q.2)
  else if b < 247 then none
  else (match D with
    | h :: l :: D => (sp_rest b X D).map fun q => (q.1, q.2.1, 256 * h + l, q.2.2)
    | _ => none)
theorem sp_ty_wt {D D' : List Nat} {t : Nat} (hD : ∀ x ∈ D, x < 256) (h : sp_ty D = some (t, D')) : sp_wt t ∧ ∀ x ∈ D', x < 256 := by
  unfold sp_ty at h
  match D, hD, h with
  | k :: D, hD, h =>
    dsimp only at h
    split at h
    · cases h
    · split at h
      · cases h
        exact ⟨wt_k (by omega), fun x hx => hD x (List.mem_cons_of_mem _ hx)⟩
      · match D, hD, h with
        | a :: l :: D, hD, h =>
          dsimp only at h
          have ha := hD a (by simp)
          have hl := hD l (by simp)
          split at h
          · cases h
          · next e8 e7 e =>
            cases h
            refine ⟨?_, fun x hx => hD x (by simp [hx])⟩
            by_cases ek : k = 7
            · subst ek
              exact wt_7 (by omega)
            · have : k = 8 := by omega
              subst this
              exact wt_8 (by omega)
/-! the class -/
def rd_C (M : zm_M) (B D : List Nat) : Prop := ∃ q, D = B.drop q ∧ q ≤ B.length ∧ M 29 0 11 = nI q
def zo_1 (M M' : zm_M) : Prop := ∀ s i k, ¬ (s = 29 ∧ i = 0 ∧ k = 11) → M' s i k = M s i k
theorem zo_1.rf {M : zm_M} : zo_1 M M := fun _ _ _ _ => rfl
theorem zo_1.tr {M M1 M2 : zm_M} (h : zo_1 M M1) (h2 : zo_1 M1 M2) : zo_1 M M2 := fun s i k a => (h2 s i k a).trans (h s i k a)
theorem zo_1.s {M M' : zm_M} (h : zo_1 M M') {s : Nat} (hs : s ≠ 29) : M' s = M s := by
  funext i k
  exact h s i k (by omega)
theorem zo_1.W {M M' : zm_M} {b : Nat} {B : List Nat} (h : zo_1 M M') (hB : rc_W M b B) : rc_W M' b B := hB.kept (by rw [h.s (by decide)]) (by rw [h.s (by decide)])
theorem zo_1.F {M M' : zm_M} {f : Nat} {F : sp_F} (h : zo_1 M M') (hF : rc_F M f F) : rc_F M' f F := hF.kept (by rw [h.s (by decide)]) (by rw [h.s (by decide)]) (by rw [h.s (by decide)])
theorem zo_1.L {M M' : zm_M} {f : Nat} {X : List Nat} (h : zo_1 M M') (hX : rc_L M f X) : rc_L M' f X := hX.kept (by rw [h.s (by decide)]) (by rw [h.s (by decide)])
theorem sc_rbyte {M : zm_M} {B D : List Nat} (hB : rc_W M 0 B) (hl : B.length ≤ 400) (hD : rd_C M B D) : ∃ M', fn_re_readByte [.inr (29, 0)] M = some (vz D.head?, M') ∧ zo_1 M M' ∧ rd_C M' B D.tail := by
  obtain ⟨q, h1, h2, h3⟩ := hD
  rw [eq_re_readByte, h3, hB.1]
  simp only [nz_0, nz_1, nz_2, nz_3, nz_4, nz_5, nz_6, nz_7, nz_8, nz_9, nz_10, nz_11, nz_12, nz_13, nz_14, nz_15, nz_16, nz_17, nz_18, nz_19, nz_20, nz_21, nz_22, nz_23, nz_24, nz_25, nz_26, nz_27, nz_28, nz_29, nz_30, nz_31, nz_32, nz_33, nz_34, nz_35, nz_36, nz_37, nz_38, nz_39, nz_40, nz_41, nz_42, nz_43, nz_44, nz_45, nz_46, nz_47, nz_48, nz_49, nz_50, nz_51, nz_63, nz_64, nz_66, nz_127, nz_128, nz_246, nz_247, nz_248, nz_250, nz_251, nz_252, nz_254, nz_255, nz_256, nz_400, nz_2500, nI_add]
  by_cases e : q < B.length
  · have hd : D = B.getD q 0 :: B.drop (q + 1) := by rw [h1]; exact dr_c e
    rw [if_pos (ni_lt e (by omega) (by omega)), pk_sub (by omega), show q + 1 - 1 = q by omega, nI_clamp (by omega), if_neg (ni_in (show q < 400 by omega) (by omega)), hB.2 q e (by omega), hd]
    refine ⟨_, rfl, ?_, q + 1, rfl, by omega, zu_e⟩
    intro s i k a
    by_cases es : s = 29
    · subst es
      by_cases ei : i = 0
      · rw [zu_k (by omega)]
      · rw [zu_i ei]
    · rw [zu_s es]
  · have hd : D = [] := by rw [h1]; exact List.drop_eq_nil_of_le (by omega)
    rw [if_neg (ni_nl (by omega) (by omega) (by omega)), hd]
    refine ⟨M, rfl, zo_1.rf, q, ?_, h2, h3⟩
    rw [List.drop_eq_nil_of_le (by omega)]
    rfl
theorem or_nI {a b : Nat} : nI a ||| nI b = nI (a ||| b) := by
  apply Int32.toBitVec_inj.mp
  unfold nI
  rw [Int32.toBitVec_or, Int32.toBitVec_ofNat', Int32.toBitVec_ofNat', Int32.toBitVec_ofNat', BitVec.ofNat_or]
theorem two_nI {h l : Nat} (hh : h < 256) (hl : l < 256) : (nI h <<< (nI 8 &&& nI 31)) ||| nI l = nI (256 * h + l) := by
  rw [pk_shlN _ 8 (by decide) (by omega), or_nI, Nat.mul_comm h, ← Nat.two_pow_add_eq_or_of_lt (by omega)]
theorem sc_rtwo {M : zm_M} {B D : List Nat} (hB : rc_W M 0 B) (hl : B.length ≤ 400) (hD : rd_C M B D) (hb : ∀ x ∈ D, x < 256) : ∃ M', fn_re_readTwo [.inr (29, 0)] M = some ((match D with
    | h :: l :: _ => nI (256 * h + l)
    | _ => -nI 1), M') ∧ zo_1 M M' ∧ rd_C M' B (D.drop 2) := by
  obtain ⟨M1, a1, a2, a3⟩ := sc_rbyte hB hl hD
  obtain ⟨M2, b1, b2, b3⟩ := sc_rbyte (a2.W hB) hl a3
  rw [eq_re_readTwo, a1, Option.bind_some]
  dsimp only
  rw [b1, Option.bind_some]
  simp only [nz_0, nz_1, nz_2, nz_3, nz_4, nz_5, nz_6, nz_7, nz_8, nz_9, nz_10, nz_11, nz_12, nz_13, nz_14, nz_15, nz_16, nz_17, nz_18, nz_19, nz_20, nz_21, nz_22, nz_23, nz_24, nz_25, nz_26, nz_27, nz_28, nz_29, nz_30, nz_31, nz_32, nz_33, nz_34, nz_35, nz_36, nz_37, nz_38, nz_39, nz_40, nz_41, nz_42, nz_43, nz_44, nz_45, nz_46, nz_47, nz_48, nz_49, nz_50, nz_51, nz_63, nz_64, nz_66, nz_127, nz_128, nz_246, nz_247, nz_248, nz_250, nz_251, nz_252, nz_254, nz_255, nz_256, nz_400, nz_2500]
  match D, hb, b3 with
  | [], _, b3 =>
    rw [if_pos (show vz ([] : List Nat).head? < nI 0 by decide)]
    exact ⟨M2, rfl, a2.tr b2, b3⟩
  | [h], hb, b3 =>
    have hh := hb h (by simp)
    rw [if_neg (show ¬ vz [h].head? < nI 0 from ni_nl (by omega) (by omega) (by omega)), if_pos (show vz ([h].tail).head? < nI 0 from (by decide : -nI 1 < nI 0))]
    exact ⟨M2, rfl, a2.tr b2, b3⟩
  | h :: l :: D, hb, b3 =>
    have hh := hb h (by simp)
    have hl := hb l (by simp)
    rw [if_neg (show ¬ vz (h :: l :: D).head? < nI 0 from ni_nl (by omega) (by omega) (by omega)), if_neg (show ¬ vz ((h :: l :: D).tail).head? < nI 0 from ni_nl (by omega) (by omega) (by omega))]
    refine ⟨M2, ?_, a2.tr b2, b3⟩
    rw [show vz (h :: l :: D).head? = nI h from rfl, show vz ((h :: l :: D).tail).head? = nI l from rfl, two_nI hh hl]
theorem sc_isClass {c : Nat} (hc : c < 2 ^ 31) (M : zm_M) : fn_mf_isClass [.inl (nI c)] M = some (bI (decide (c < 8)), M) := by
  rw [eq_mf_isClass]
  simp only [nz_0, nz_1, nz_2, nz_3, nz_4, nz_5, nz_6, nz_7, nz_8, nz_9, nz_10, nz_11, nz_12, nz_13, nz_14, nz_15, nz_16, nz_17, nz_18, nz_19, nz_20, nz_21, nz_22, nz_23, nz_24, nz_25, nz_26, nz_27, nz_28, nz_29, nz_30, nz_31, nz_32, nz_33, nz_34, nz_35, nz_36, nz_37, nz_38, nz_39, nz_40, nz_41, nz_42, nz_43, nz_44, nz_45, nz_46, nz_47, nz_48, nz_49, nz_50, nz_51, nz_63, nz_64, nz_66, nz_127, nz_128, nz_246, nz_247, nz_248, nz_250, nz_251, nz_252, nz_254, nz_255, nz_256, nz_400, nz_2500]
  rw [if_neg (ni_nl (by omega) hc (by omega))]
  by_cases e : c < 8
  · rw [if_pos (ni_lt e hc (by omega)), decide_eq_true e]
    rfl
  · rw [if_neg (ni_nl (by omega) hc (by omega)), decide_eq_false e]
    rfl
theorem sc_rtype {M : zm_M} {B D : List Nat} (hB : rc_W M 0 B) (hl : B.length ≤ 400) (hD : rd_C M B D) (hb : ∀ x ∈ D, x < 256) : ∃ M', fn_re_readType [.inr (29, 0)] M = some (vz ((sp_ty D).map fun q => q.1), M') ∧ zo_1 M M' ∧ (∃ D', rd_C M' B D') ∧ ∀ t D', sp_ty D = some (t, D') → rd_C M' B D' := by
  obtain ⟨M1, a1, a2, a3⟩ := sc_rbyte hB hl hD
  rw [eq_re_readType, a1, Option.bind_some]
  simp only [nz_0, nz_1, nz_2, nz_3, nz_4, nz_5, nz_6, nz_7, nz_8, nz_9, nz_10, nz_11, nz_12, nz_13, nz_14, nz_15, nz_16, nz_17, nz_18, nz_19, nz_20, nz_21, nz_22, nz_23, nz_24, nz_25, nz_26, nz_27, nz_28, nz_29, nz_30, nz_31, nz_32, nz_33, nz_34, nz_35, nz_36, nz_37, nz_38, nz_39, nz_40, nz_41, nz_42, nz_43, nz_44, nz_45, nz_46, nz_47, nz_48, nz_49, nz_50, nz_51, nz_63, nz_64, nz_66, nz_127, nz_128, nz_246, nz_247, nz_248, nz_250, nz_251, nz_252, nz_254, nz_255, nz_256, nz_400, nz_2500]
  match D, hb, a3 with
  | [], _, a3 =>
    rw [if_pos (show vz ([] : List Nat).head? < nI 0 by decide)]
    exact ⟨M1, rfl, a2, ⟨_, a3⟩, fun t D' h => by cases h⟩
  | k :: D, hb, a3 =>
    have hk := hb k (by simp)
    have hb' : ∀ x ∈ D, x < 256 := fun x hx => hb x (List.mem_cons_of_mem _ hx)
    have hv : vz (k :: D).head? = nI k := rfl
    rw [hv, if_neg (ni_nl (by omega) (by omega) (by omega))]
    have ht : (k :: D).tail = D := rfl
    rw [ht] at a3
    by_cases e8 : 8 < k
    · rw [if_pos (ni_lt e8 (by omega) (by omega))]
      have hs : sp_ty (k :: D) = none := by unfold sp_ty; dsimp only; rw [if_pos e8]
      rw [hs]
      exact ⟨M1, rfl, a2, ⟨_, a3⟩, fun t D' h => by cases h⟩
    · rw [if_neg (ni_nl (by omega) (by omega) (by omega))]
      by_cases e7 : k < 7
      · rw [if_pos (ni_lt e7 (by omega) (by omega))]
        have hs : sp_ty (k :: D) = some (k, D) := by unfold sp_ty; dsimp only; rw [if_neg e8, if_pos e7]
        rw [hs]
        exact ⟨M1, rfl, a2, ⟨_, a3⟩, fun t D' h => by cases h; exact a3⟩
      · rw [if_neg (ni_nl (by omega) (by omega) (by omega))]
        obtain ⟨M2, b1, b2, b3⟩ := sc_rtwo (a2.W hB) hl a3 hb'
        rw [b1, Option.bind_some]
        match D, hb', b3 with
        | [], _, b3 =>
          dsimp only
          rw [if_pos (show -nI 1 < nI 0 by decide)]
          have hs : sp_ty [k] = none := by unfold sp_ty; dsimp only; rw [if_neg e8, if_neg e7]
          rw [hs]
          exact ⟨M2, rfl, a2.tr b2, ⟨_, b3⟩, fun t D' h => by cases h⟩
        | [x], _, b3 =>
          dsimp only
          rw [if_pos (show -nI 1 < nI 0 by decide)]
          have hs : sp_ty [k, x] = none := by unfold sp_ty; dsimp only; rw [if_neg e8, if_neg e7]
          rw [hs]
          exact ⟨M2, rfl, a2.tr b2, ⟨_, b3⟩, fun t D' h => by cases h⟩
        | h :: l :: D, hb', b3 =>
          have hh := hb' h (by simp)
          have hl2 := hb' l (by simp)
          dsimp only
          rw [if_neg (ni_nl (by omega) (by omega) (by omega))]
          have b3 : rd_C M2 B D := b3
          by_cases ek : k = 7
          · subst ek
            rw [if_pos rfl, sc_isClass (by omega), Option.bind_some]
            simp only [bI_0]
            by_cases e : 256 * h + l < 8
            · have hs : sp_ty (7 :: h :: l :: D) = some (16 * (256 * h + l) + 7, D) := by
                unfold sp_ty
                dsimp only
                rw [if_neg e8, if_neg e7]
                rw [if_neg (by omega)]
              rw [decide_eq_true e, if_neg (by decide), sc_type, Option.bind_some, hs]
              exact ⟨M2, rfl, a2.tr b2, ⟨_, b3⟩, fun t D' q => by cases q; exact b3⟩
            · have hs : sp_ty (7 :: h :: l :: D) = none := by
                unfold sp_ty
                dsimp only
                rw [if_neg e8, if_neg e7]
                rw [if_pos (by omega)]
              rw [decide_eq_false e, if_pos rfl, hs]
              exact ⟨M2, rfl, a2.tr b2, ⟨_, b3⟩, fun t D' q => by cases q⟩
          · have hk8 : k = 8 := by omega
            subst hk8
            rw [if_neg (show ¬ nI 8 = nI 7 by decide), sc_type, Option.bind_some]
            have hs : sp_ty (8 :: h :: l :: D) = some (16 * (256 * h + l) + 8, D) := by
              unfold sp_ty
              dsimp only
              rw [if_neg e8, if_neg e7]
              rw [if_neg (by omega)]
            rw [hs]
            exact ⟨M2, rfl, a2.tr b2, ⟨_, b3⟩, fun t D' q => by cases q; exact b3⟩
